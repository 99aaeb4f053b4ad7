theorem dX7_init_0 : decode cX7_init 0 = .ok (.aload_n 0, 1) := by decide +kernel
theorem dX7_init_1 : decode cX7_init 1 = .ok (.invokespecial 1, 3) := by decide +kernel
theorem dX7_init_4 : decode cX7_init 4 = .ok (.aload_n 0, 1) := by decide +kernel
theorem dX7_init_5 : decode cX7_init 5 = .ok (.bipush 8, 2) := by decide +kernel
theorem dX7_init_7 : decode cX7_init 7 = .ok (.newarray .int, 2) := by decide +kernel
theorem dX7_init_9 : decode cX7_init 9 = .ok (.dup, 1) := by decide +kernel
theorem dX7_init_10 : decode cX7_init 10 = .ok (.iconst 0, 1) := by decide +kernel
theorem dX7_init_11 : decode cX7_init 11 = .ok (.iconst (-1), 1) := by decide +kernel
theorem dX7_init_12 : decode cX7_init 12 = .ok (.iastore, 1) := by decide +kernel
theorem dX7_init_13 : decode cX7_init 13 = .ok (.dup, 1) := by decide +kernel
theorem dX7_init_14 : decode cX7_init 14 = .ok (.iconst 1, 1) := by decide +kernel
theorem dX7_init_15 : decode cX7_init 15 = .ok (.iconst (-1), 1) := by decide +kernel
theorem dX7_init_16 : decode cX7_init 16 = .ok (.iastore, 1) := by decide +kernel
theorem dX7_init_17 : decode cX7_init 17 = .ok (.dup, 1) := by decide +kernel
theorem dX7_init_18 : decode cX7_init 18 = .ok (.iconst 2, 1) := by decide +kernel
theorem dX7_init_19 : decode cX7_init 19 = .ok (.iconst (-1), 1) := by decide +kernel
theorem dX7_init_20 : decode cX7_init 20 = .ok (.iastore, 1) := by decide +kernel
theorem dX7_init_21 : decode cX7_init 21 = .ok (.dup, 1) := by decide +kernel
theorem dX7_init_22 : decode cX7_init 22 = .ok (.iconst 3, 1) := by decide +kernel
theorem dX7_init_23 : decode cX7_init 23 = .ok (.iconst (-1), 1) := by decide +kernel
theorem dX7_init_24 : decode cX7_init 24 = .ok (.iastore, 1) := by decide +kernel
theorem dX7_init_25 : decode cX7_init 25 = .ok (.dup, 1) := by decide +kernel
theorem dX7_init_26 : decode cX7_init 26 = .ok (.iconst 4, 1) := by decide +kernel
theorem dX7_init_27 : decode cX7_init 27 = .ok (.iconst (-1), 1) := by decide +kernel
theorem dX7_init_28 : decode cX7_init 28 = .ok (.iastore, 1) := by decide +kernel
theorem dX7_init_29 : decode cX7_init 29 = .ok (.dup, 1) := by decide +kernel
theorem dX7_init_30 : decode cX7_init 30 = .ok (.iconst 5, 1) := by decide +kernel
theorem dX7_init_31 : decode cX7_init 31 = .ok (.iconst (-1), 1) := by decide +kernel
theorem dX7_init_32 : decode cX7_init 32 = .ok (.iastore, 1) := by decide +kernel
theorem dX7_init_33 : decode cX7_init 33 = .ok (.dup, 1) := by decide +kernel
theorem dX7_init_34 : decode cX7_init 34 = .ok (.bipush 6, 2) := by decide +kernel
theorem dX7_init_36 : decode cX7_init 36 = .ok (.iconst (-1), 1) := by decide +kernel
theorem dX7_init_37 : decode cX7_init 37 = .ok (.iastore, 1) := by decide +kernel
theorem dX7_init_38 : decode cX7_init 38 = .ok (.dup, 1) := by decide +kernel
theorem dX7_init_39 : decode cX7_init 39 = .ok (.bipush 7, 2) := by decide +kernel
theorem dX7_init_41 : decode cX7_init 41 = .ok (.iconst (-1), 1) := by decide +kernel
theorem dX7_init_42 : decode cX7_init 42 = .ok (.iastore, 1) := by decide +kernel
theorem dX7_init_43 : decode cX7_init 43 = .ok (.putfield 7, 3) := by decide +kernel
theorem dX7_init_46 : decode cX7_init 46 = .ok (.aload_n 0, 1) := by decide +kernel
theorem dX7_init_47 : decode cX7_init 47 = .ok (.bipush 8, 2) := by decide +kernel
theorem dX7_init_49 : decode cX7_init 49 = .ok (.newarray .int, 2) := by decide +kernel
theorem dX7_init_51 : decode cX7_init 51 = .ok (.putfield 13, 3) := by decide +kernel
theorem dX7_init_54 : decode cX7_init 54 = .ok (.aload_n 0, 1) := by decide +kernel
theorem dX7_init_55 : decode cX7_init 55 = .ok (.sipush 320, 3) := by decide +kernel
theorem dX7_init_58 : decode cX7_init 58 = .ok (.newarray .int, 2) := by decide +kernel
theorem dX7_init_60 : decode cX7_init 60 = .ok (.putfield 16, 3) := by decide +kernel
theorem dX7_init_63 : decode cX7_init 63 = .ok (.aload_n 0, 1) := by decide +kernel
theorem dX7_init_64 : decode cX7_init 64 = .ok (.bipush 44, 2) := by decide +kernel
theorem dX7_init_66 : decode cX7_init 66 = .ok (.newarray .int, 2) := by decide +kernel
theorem dX7_init_68 : decode cX7_init 68 = .ok (.putfield 19, 3) := by decide +kernel
theorem dX7_init_71 : decode cX7_init 71 = .ok (.aload_n 0, 1) := by decide +kernel
theorem dX7_init_72 : decode cX7_init 72 = .ok (.bipush 44, 2) := by decide +kernel
theorem dX7_init_74 : decode cX7_init 74 = .ok (.newarray .int, 2) := by decide +kernel
theorem dX7_init_76 : decode cX7_init 76 = .ok (.putfield 22, 3) := by decide +kernel
theorem dX7_init_79 : decode cX7_init 79 = .ok (.aload_n 0, 1) := by decide +kernel
theorem dX7_init_80 : decode cX7_init 80 = .ok (.bipush 44, 2) := by decide +kernel
theorem dX7_init_82 : decode cX7_init 82 = .ok (.newarray .int, 2) := by decide +kernel
theorem dX7_init_84 : decode cX7_init 84 = .ok (.putfield 25, 3) := by decide +kernel
theorem dX7_init_87 : decode cX7_init 87 = .ok (.aload_n 0, 1) := by decide +kernel
theorem dX7_init_88 : decode cX7_init 88 = .ok (.sipush 1056, 3) := by decide +kernel
theorem dX7_init_91 : decode cX7_init 91 = .ok (.newarray .int, 2) := by decide +kernel
theorem dX7_init_93 : decode cX7_init 93 = .ok (.putfield 28, 3) := by decide +kernel
theorem dX7_init_96 : decode cX7_init 96 = .ok (.aload_n 0, 1) := by decide +kernel
theorem dX7_init_97 : decode cX7_init 97 = .ok (.sipush 130, 3) := by decide +kernel
theorem dX7_init_100 : decode cX7_init 100 = .ok (.newarray .int, 2) := by decide +kernel
theorem dX7_init_102 : decode cX7_init 102 = .ok (.putfield 31, 3) := by decide +kernel
theorem dX7_init_105 : decode cX7_init 105 = .ok (.aload_n 0, 1) := by decide +kernel
theorem dX7_init_106 : decode cX7_init 106 = .ok (.sipush 14016, 3) := by decide +kernel
theorem dX7_init_109 : decode cX7_init 109 = .ok (.newarray .int, 2) := by decide +kernel
theorem dX7_init_111 : decode cX7_init 111 = .ok (.putfield 34, 3) := by decide +kernel
theorem dX7_init_114 : decode cX7_init 114 = .ok (.aload_n 0, 1) := by decide +kernel
theorem dX7_init_115 : decode cX7_init 115 = .ok (.bipush 8, 2) := by decide +kernel
theorem dX7_init_117 : decode cX7_init 117 = .ok (.newarray .int, 2) := by decide +kernel
theorem dX7_init_119 : decode cX7_init 119 = .ok (.putfield 37, 3) := by decide +kernel
theorem dX7_init_122 : decode cX7_init 122 = .ok (.aload_n 0, 1) := by decide +kernel
theorem dX7_init_123 : decode cX7_init 123 = .ok (.sipush 200, 3) := by decide +kernel
theorem dX7_init_126 : decode cX7_init 126 = .ok (.newarray .int, 2) := by decide +kernel
theorem dX7_init_128 : decode cX7_init 128 = .ok (.putfield 40, 3) := by decide +kernel
theorem dX7_init_131 : decode cX7_init 131 = .ok (.aload_n 0, 1) := by decide +kernel
theorem dX7_init_132 : decode cX7_init 132 = .ok (.iconst 2, 1) := by decide +kernel
theorem dX7_init_133 : decode cX7_init 133 = .ok (.newarray .boolean, 2) := by decide +kernel
theorem dX7_init_135 : decode cX7_init 135 = .ok (.putfield 43, 3) := by decide +kernel
theorem dX7_init_138 : decode cX7_init 138 = .ok (.aload_n 0, 1) := by decide +kernel
theorem dX7_init_139 : decode cX7_init 139 = .ok (.bipush 88, 2) := by decide +kernel
theorem dX7_init_141 : decode cX7_init 141 = .ok (.newarray .int, 2) := by decide +kernel
theorem dX7_init_143 : decode cX7_init 143 = .ok (.putfield 47, 3) := by decide +kernel
theorem dX7_init_146 : decode cX7_init 146 = .ok (.aload_n 0, 1) := by decide +kernel
theorem dX7_init_147 : decode cX7_init 147 = .ok (.bipush 16, 2) := by decide +kernel
theorem dX7_init_149 : decode cX7_init 149 = .ok (.newarray .int, 2) := by decide +kernel
theorem dX7_init_151 : decode cX7_init 151 = .ok (.putfield 50, 3) := by decide +kernel
theorem dX7_init_154 : decode cX7_init 154 = .ok (.return_, 1) := by decide +kernel
theorem dX7_in_0 : decode cX7_in 0 = .ok (.lload_n 0, 1) := by decide +kernel
theorem dX7_in_1 : decode cX7_in 1 = .ok (.lload_n 2, 1) := by decide +kernel
theorem dX7_in_2 : decode cX7_in 2 = .ok (.lcmp, 1) := by decide +kernel
theorem dX7_in_3 : decode cX7_in 3 = .ok (.ifCond .lt 14, 3) := by decide +kernel
theorem dX7_in_6 : decode cX7_in 6 = .ok (.lload_n 0, 1) := by decide +kernel
theorem dX7_in_7 : decode cX7_in 7 = .ok (.lload 4, 2) := by decide +kernel
theorem dX7_in_9 : decode cX7_in 9 = .ok (.lcmp, 1) := by decide +kernel
theorem dX7_in_10 : decode cX7_in 10 = .ok (.ifCond .gt 7, 3) := by decide +kernel
theorem dX7_in_13 : decode cX7_in 13 = .ok (.iconst 1, 1) := by decide +kernel
theorem dX7_in_14 : decode cX7_in 14 = .ok (.goto 4, 3) := by decide +kernel
theorem dX7_in_17 : decode cX7_in 17 = .ok (.iconst 0, 1) := by decide +kernel
theorem dX7_in_18 : decode cX7_in 18 = .ok (.ireturn, 1) := by decide +kernel
theorem dX7_finding_0 : decode cX7_finding 0 = .ok (.aload_n 0, 1) := by decide +kernel
theorem dX7_finding_1 : decode cX7_finding 1 = .ok (.iload_n 1, 1) := by decide +kernel
theorem dX7_finding_2 : decode cX7_finding 2 = .ok (.putfield 57, 3) := by decide +kernel
theorem dX7_finding_5 : decode cX7_finding 5 = .ok (.ldc 60, 2) := by decide +kernel
theorem dX7_finding_7 : decode cX7_finding 7 = .ok (.iload_n 1, 1) := by decide +kernel
theorem dX7_finding_8 : decode cX7_finding 8 = .ok (.isub, 1) := by decide +kernel
theorem dX7_finding_9 : decode cX7_finding 9 = .ok (.ireturn, 1) := by decide +kernel
theorem dX7_isRow_0 : decode cX7_isRow 0 = .ok (.iload_n 0, 1) := by decide +kernel
theorem dX7_isRow_1 : decode cX7_isRow 1 = .ok (.i2l, 1) := by decide +kernel
theorem dX7_isRow_2 : decode cX7_isRow 2 = .ok (.lconst 0, 1) := by decide +kernel
theorem dX7_isRow_3 : decode cX7_isRow 3 = .ok (.ldc2_w 61, 3) := by decide +kernel
theorem dX7_isRow_6 : decode cX7_isRow 6 = .ok (.invokestatic 63, 3) := by decide +kernel
theorem dX7_isRow_9 : decode cX7_isRow 9 = .ok (.ireturn, 1) := by decide +kernel
theorem dX7_row_0 : decode cX7_row 0 = .ok (.aload_n 0, 1) := by decide +kernel
theorem dX7_row_1 : decode cX7_row 1 = .ok (.iconst 0, 1) := by decide +kernel
theorem dX7_row_2 : decode cX7_row 2 = .ok (.putfield 53, 3) := by decide +kernel
theorem dX7_row_5 : decode cX7_row 5 = .ok (.iload_n 1, 1) := by decide +kernel
theorem dX7_row_6 : decode cX7_row 6 = .ok (.invokestatic 67, 3) := by decide +kernel
theorem dX7_row_9 : decode cX7_row 9 = .ok (.ifCond .eq 21, 3) := by decide +kernel
theorem dX7_row_12 : decode cX7_row 12 = .ok (.iload_n 2, 1) := by decide +kernel
theorem dX7_row_13 : decode cX7_row 13 = .ok (.i2l, 1) := by decide +kernel
theorem dX7_row_14 : decode cX7_row 14 = .ok (.lconst 0, 1) := by decide +kernel
theorem dX7_row_15 : decode cX7_row 15 = .ok (.ldc2_w 71, 3) := by decide +kernel
theorem dX7_row_18 : decode cX7_row 18 = .ok (.invokestatic 63, 3) := by decide +kernel
theorem dX7_row_21 : decode cX7_row 21 = .ok (.ifCond .eq 9, 3) := by decide +kernel
theorem dX7_row_24 : decode cX7_row 24 = .ok (.iload_n 3, 1) := by decide +kernel
theorem dX7_row_25 : decode cX7_row 25 = .ok (.bipush 40, 2) := by decide +kernel
theorem dX7_row_27 : decode cX7_row 27 = .ok (.if_icmp .le 6, 3) := by decide +kernel
theorem dX7_row_30 : decode cX7_row 30 = .ok (.ldc 73, 2) := by decide +kernel
theorem dX7_row_32 : decode cX7_row 32 = .ok (.ireturn, 1) := by decide +kernel
theorem dX7_row_33 : decode cX7_row 33 = .ok (.aload_n 0, 1) := by decide +kernel
theorem dX7_row_34 : decode cX7_row 34 = .ok (.iconst 0, 1) := by decide +kernel
theorem dX7_row_35 : decode cX7_row 35 = .ok (.putfield 57, 3) := by decide +kernel
theorem dX7_row_38 : decode cX7_row 38 = .ok (.iload_n 3, 1) := by decide +kernel
theorem dX7_row_39 : decode cX7_row 39 = .ok (.ifCond .ge 9, 3) := by decide +kernel
theorem dX7_row_42 : decode cX7_row 42 = .ok (.aload_n 0, 1) := by decide +kernel
theorem dX7_row_43 : decode cX7_row 43 = .ok (.iconst 4, 1) := by decide +kernel
theorem dX7_row_44 : decode cX7_row 44 = .ok (.invokevirtual 74, 3) := by decide +kernel
theorem dX7_row_47 : decode cX7_row 47 = .ok (.ireturn, 1) := by decide +kernel
theorem dX7_row_48 : decode cX7_row 48 = .ok (.aload_n 0, 1) := by decide +kernel
theorem dX7_row_49 : decode cX7_row 49 = .ok (.getfield 7, 3) := by decide +kernel
theorem dX7_row_52 : decode cX7_row 52 = .ok (.iload_n 1, 1) := by decide +kernel
theorem dX7_row_53 : decode cX7_row 53 = .ok (.iload_n 2, 1) := by decide +kernel
theorem dX7_row_54 : decode cX7_row 54 = .ok (.iastore, 1) := by decide +kernel
theorem dX7_row_55 : decode cX7_row 55 = .ok (.aload_n 0, 1) := by decide +kernel
theorem dX7_row_56 : decode cX7_row 56 = .ok (.getfield 13, 3) := by decide +kernel
theorem dX7_row_59 : decode cX7_row 59 = .ok (.iload_n 1, 1) := by decide +kernel
theorem dX7_row_60 : decode cX7_row 60 = .ok (.iload_n 3, 1) := by decide +kernel
theorem dX7_row_61 : decode cX7_row 61 = .ok (.iastore, 1) := by decide +kernel
theorem dX7_row_62 : decode cX7_row 62 = .ok (.iconst 0, 1) := by decide +kernel
theorem dX7_row_63 : decode cX7_row 63 = .ok (.istore 4, 2) := by decide +kernel
theorem dX7_row_65 : decode cX7_row 65 = .ok (.iload 4, 2) := by decide +kernel
theorem dX7_row_67 : decode cX7_row 67 = .ok (.bipush 40, 2) := by decide +kernel
theorem dX7_row_69 : decode cX7_row 69 = .ok (.if_icmp .ge 22, 3) := by decide +kernel
theorem dX7_row_72 : decode cX7_row 72 = .ok (.aload_n 0, 1) := by decide +kernel
theorem dX7_row_73 : decode cX7_row 73 = .ok (.getfield 16, 3) := by decide +kernel
theorem dX7_row_76 : decode cX7_row 76 = .ok (.bipush 40, 2) := by decide +kernel
theorem dX7_row_78 : decode cX7_row 78 = .ok (.iload_n 1, 1) := by decide +kernel
theorem dX7_row_79 : decode cX7_row 79 = .ok (.imul, 1) := by decide +kernel
theorem dX7_row_80 : decode cX7_row 80 = .ok (.iload 4, 2) := by decide +kernel
theorem dX7_row_82 : decode cX7_row 82 = .ok (.iadd, 1) := by decide +kernel
theorem dX7_row_83 : decode cX7_row 83 = .ok (.iconst 0, 1) := by decide +kernel
theorem dX7_row_84 : decode cX7_row 84 = .ok (.iastore, 1) := by decide +kernel
theorem dX7_row_85 : decode cX7_row 85 = .ok (.iinc 4 1, 3) := by decide +kernel
theorem dX7_row_88 : decode cX7_row 88 = .ok (.goto (-23), 3) := by decide +kernel
theorem dX7_row_91 : decode cX7_row 91 = .ok (.iload_n 3, 1) := by decide +kernel
theorem dX7_row_92 : decode cX7_row 92 = .ok (.ireturn, 1) := by decide +kernel
theorem dX7_set_0 : decode cX7_set 0 = .ok (.aload_n 0, 1) := by decide +kernel
theorem dX7_set_1 : decode cX7_set 1 = .ok (.iconst 0, 1) := by decide +kernel
theorem dX7_set_2 : decode cX7_set 2 = .ok (.putfield 53, 3) := by decide +kernel
theorem dX7_set_5 : decode cX7_set 5 = .ok (.iload_n 1, 1) := by decide +kernel
theorem dX7_set_6 : decode cX7_set 6 = .ok (.invokestatic 67, 3) := by decide +kernel
theorem dX7_set_9 : decode cX7_set 9 = .ok (.ifCond .ne 6, 3) := by decide +kernel
theorem dX7_set_12 : decode cX7_set 12 = .ok (.ldc 73, 2) := by decide +kernel
theorem dX7_set_14 : decode cX7_set 14 = .ok (.ireturn, 1) := by decide +kernel
theorem dX7_set_15 : decode cX7_set 15 = .ok (.aload_n 0, 1) := by decide +kernel
theorem dX7_set_16 : decode cX7_set 16 = .ok (.iconst 0, 1) := by decide +kernel
theorem dX7_set_17 : decode cX7_set 17 = .ok (.putfield 57, 3) := by decide +kernel
theorem dX7_set_20 : decode cX7_set 20 = .ok (.aload_n 0, 1) := by decide +kernel
theorem dX7_set_21 : decode cX7_set 21 = .ok (.getfield 7, 3) := by decide +kernel
theorem dX7_set_24 : decode cX7_set 24 = .ok (.iload_n 1, 1) := by decide +kernel
theorem dX7_set_25 : decode cX7_set 25 = .ok (.iaload, 1) := by decide +kernel
theorem dX7_set_26 : decode cX7_set 26 = .ok (.ifCond .ge 9, 3) := by decide +kernel
theorem dX7_set_29 : decode cX7_set 29 = .ok (.aload_n 0, 1) := by decide +kernel
theorem dX7_set_30 : decode cX7_set 30 = .ok (.iconst 1, 1) := by decide +kernel
theorem dX7_set_31 : decode cX7_set 31 = .ok (.invokevirtual 74, 3) := by decide +kernel
theorem dX7_set_34 : decode cX7_set 34 = .ok (.ireturn, 1) := by decide +kernel
theorem dX7_set_35 : decode cX7_set 35 = .ok (.iload_n 2, 1) := by decide +kernel
theorem dX7_set_36 : decode cX7_set 36 = .ok (.i2l, 1) := by decide +kernel
theorem dX7_set_37 : decode cX7_set 37 = .ok (.lconst 0, 1) := by decide +kernel
theorem dX7_set_38 : decode cX7_set 38 = .ok (.aload_n 0, 1) := by decide +kernel
theorem dX7_set_39 : decode cX7_set 39 = .ok (.getfield 13, 3) := by decide +kernel
theorem dX7_set_42 : decode cX7_set 42 = .ok (.iload_n 1, 1) := by decide +kernel
theorem dX7_set_43 : decode cX7_set 43 = .ok (.iaload, 1) := by decide +kernel
theorem dX7_set_44 : decode cX7_set 44 = .ok (.iconst 1, 1) := by decide +kernel
theorem dX7_set_45 : decode cX7_set 45 = .ok (.isub, 1) := by decide +kernel
theorem dX7_set_46 : decode cX7_set 46 = .ok (.i2l, 1) := by decide +kernel
theorem dX7_set_47 : decode cX7_set 47 = .ok (.invokestatic 63, 3) := by decide +kernel
theorem dX7_set_50 : decode cX7_set 50 = .ok (.ifCond .ne 9, 3) := by decide +kernel
theorem dX7_set_53 : decode cX7_set 53 = .ok (.aload_n 0, 1) := by decide +kernel
theorem dX7_set_54 : decode cX7_set 54 = .ok (.iconst 2, 1) := by decide +kernel
theorem dX7_set_55 : decode cX7_set 55 = .ok (.invokevirtual 74, 3) := by decide +kernel
theorem dX7_set_58 : decode cX7_set 58 = .ok (.ireturn, 1) := by decide +kernel
theorem dX7_set_59 : decode cX7_set 59 = .ok (.aload_n 0, 1) := by decide +kernel
theorem dX7_set_60 : decode cX7_set 60 = .ok (.getfield 16, 3) := by decide +kernel
theorem dX7_set_63 : decode cX7_set 63 = .ok (.bipush 40, 2) := by decide +kernel
theorem dX7_set_65 : decode cX7_set 65 = .ok (.iload_n 1, 1) := by decide +kernel
theorem dX7_set_66 : decode cX7_set 66 = .ok (.imul, 1) := by decide +kernel
theorem dX7_set_67 : decode cX7_set 67 = .ok (.iload_n 2, 1) := by decide +kernel
theorem dX7_set_68 : decode cX7_set 68 = .ok (.iadd, 1) := by decide +kernel
theorem dX7_set_69 : decode cX7_set 69 = .ok (.aload_n 0, 1) := by decide +kernel
theorem dX7_set_70 : decode cX7_set 70 = .ok (.getfield 7, 3) := by decide +kernel
theorem dX7_set_73 : decode cX7_set 73 = .ok (.iload_n 1, 1) := by decide +kernel
theorem dX7_set_74 : decode cX7_set 74 = .ok (.iaload, 1) := by decide +kernel
theorem dX7_set_75 : decode cX7_set 75 = .ok (.ifCond .ne 8, 3) := by decide +kernel
theorem dX7_set_78 : decode cX7_set 78 = .ok (.iload_n 3, 1) := by decide +kernel
theorem dX7_set_79 : decode cX7_set 79 = .ok (.i2b, 1) := by decide +kernel
theorem dX7_set_80 : decode cX7_set 80 = .ok (.goto 19, 3) := by decide +kernel
theorem dX7_set_83 : decode cX7_set 83 = .ok (.aload_n 0, 1) := by decide +kernel
theorem dX7_set_84 : decode cX7_set 84 = .ok (.getfield 7, 3) := by decide +kernel
theorem dX7_set_87 : decode cX7_set 87 = .ok (.iload_n 1, 1) := by decide +kernel
theorem dX7_set_88 : decode cX7_set 88 = .ok (.iaload, 1) := by decide +kernel
theorem dX7_set_89 : decode cX7_set 89 = .ok (.iconst 1, 1) := by decide +kernel
theorem dX7_set_90 : decode cX7_set 90 = .ok (.if_icmp .ne 8, 3) := by decide +kernel
theorem dX7_set_93 : decode cX7_set 93 = .ok (.iload_n 3, 1) := by decide +kernel
theorem dX7_set_94 : decode cX7_set 94 = .ok (.i2s, 1) := by decide +kernel
theorem dX7_set_95 : decode cX7_set 95 = .ok (.goto 4, 3) := by decide +kernel
theorem dX7_set_98 : decode cX7_set 98 = .ok (.iload_n 3, 1) := by decide +kernel
theorem dX7_set_99 : decode cX7_set 99 = .ok (.iastore, 1) := by decide +kernel
theorem dX7_set_100 : decode cX7_set 100 = .ok (.aload_n 0, 1) := by decide +kernel
theorem dX7_set_101 : decode cX7_set 101 = .ok (.getfield 16, 3) := by decide +kernel
theorem dX7_set_104 : decode cX7_set 104 = .ok (.bipush 40, 2) := by decide +kernel
theorem dX7_set_106 : decode cX7_set 106 = .ok (.iload_n 1, 1) := by decide +kernel
theorem dX7_set_107 : decode cX7_set 107 = .ok (.imul, 1) := by decide +kernel
theorem dX7_set_108 : decode cX7_set 108 = .ok (.iload_n 2, 1) := by decide +kernel
theorem dX7_set_109 : decode cX7_set 109 = .ok (.iadd, 1) := by decide +kernel
theorem dX7_set_110 : decode cX7_set 110 = .ok (.iaload, 1) := by decide +kernel
theorem dX7_set_111 : decode cX7_set 111 = .ok (.ireturn, 1) := by decide +kernel
theorem dX7_copy_0 : decode cX7_copy 0 = .ok (.aload_n 0, 1) := by decide +kernel
theorem dX7_copy_1 : decode cX7_copy 1 = .ok (.iconst 0, 1) := by decide +kernel
theorem dX7_copy_2 : decode cX7_copy 2 = .ok (.putfield 53, 3) := by decide +kernel
theorem dX7_copy_5 : decode cX7_copy 5 = .ok (.iload_n 1, 1) := by decide +kernel
theorem dX7_copy_6 : decode cX7_copy 6 = .ok (.invokestatic 67, 3) := by decide +kernel
theorem dX7_copy_9 : decode cX7_copy 9 = .ok (.ifCond .eq 10, 3) := by decide +kernel
theorem dX7_copy_12 : decode cX7_copy 12 = .ok (.iload_n 3, 1) := by decide +kernel
theorem dX7_copy_13 : decode cX7_copy 13 = .ok (.invokestatic 67, 3) := by decide +kernel
theorem dX7_copy_16 : decode cX7_copy 16 = .ok (.ifCond .ne 6, 3) := by decide +kernel
theorem dX7_copy_19 : decode cX7_copy 19 = .ok (.ldc 73, 2) := by decide +kernel
theorem dX7_copy_21 : decode cX7_copy 21 = .ok (.ireturn, 1) := by decide +kernel
theorem dX7_copy_22 : decode cX7_copy 22 = .ok (.aload_n 0, 1) := by decide +kernel
theorem dX7_copy_23 : decode cX7_copy 23 = .ok (.iconst 0, 1) := by decide +kernel
theorem dX7_copy_24 : decode cX7_copy 24 = .ok (.putfield 57, 3) := by decide +kernel
theorem dX7_copy_27 : decode cX7_copy 27 = .ok (.aload_n 0, 1) := by decide +kernel
theorem dX7_copy_28 : decode cX7_copy 28 = .ok (.getfield 7, 3) := by decide +kernel
theorem dX7_copy_31 : decode cX7_copy 31 = .ok (.iload_n 1, 1) := by decide +kernel
theorem dX7_copy_32 : decode cX7_copy 32 = .ok (.iaload, 1) := by decide +kernel
theorem dX7_copy_33 : decode cX7_copy 33 = .ok (.ifCond .lt 12, 3) := by decide +kernel
theorem dX7_copy_36 : decode cX7_copy 36 = .ok (.aload_n 0, 1) := by decide +kernel
theorem dX7_copy_37 : decode cX7_copy 37 = .ok (.getfield 7, 3) := by decide +kernel
theorem dX7_copy_40 : decode cX7_copy 40 = .ok (.iload_n 3, 1) := by decide +kernel
theorem dX7_copy_41 : decode cX7_copy 41 = .ok (.iaload, 1) := by decide +kernel
theorem dX7_copy_42 : decode cX7_copy 42 = .ok (.ifCond .ge 9, 3) := by decide +kernel
theorem dX7_copy_45 : decode cX7_copy 45 = .ok (.aload_n 0, 1) := by decide +kernel
theorem dX7_copy_46 : decode cX7_copy 46 = .ok (.iconst 1, 1) := by decide +kernel
theorem dX7_copy_47 : decode cX7_copy 47 = .ok (.invokevirtual 74, 3) := by decide +kernel
theorem dX7_copy_50 : decode cX7_copy 50 = .ok (.ireturn, 1) := by decide +kernel
theorem dX7_copy_51 : decode cX7_copy 51 = .ok (.aload_n 0, 1) := by decide +kernel
theorem dX7_copy_52 : decode cX7_copy 52 = .ok (.getfield 7, 3) := by decide +kernel
theorem dX7_copy_55 : decode cX7_copy 55 = .ok (.iload_n 1, 1) := by decide +kernel
theorem dX7_copy_56 : decode cX7_copy 56 = .ok (.iaload, 1) := by decide +kernel
theorem dX7_copy_57 : decode cX7_copy 57 = .ok (.aload_n 0, 1) := by decide +kernel
theorem dX7_copy_58 : decode cX7_copy 58 = .ok (.getfield 7, 3) := by decide +kernel
theorem dX7_copy_61 : decode cX7_copy 61 = .ok (.iload_n 3, 1) := by decide +kernel
theorem dX7_copy_62 : decode cX7_copy 62 = .ok (.iaload, 1) := by decide +kernel
theorem dX7_copy_63 : decode cX7_copy 63 = .ok (.if_icmp .eq 9, 3) := by decide +kernel
theorem dX7_copy_66 : decode cX7_copy 66 = .ok (.aload_n 0, 1) := by decide +kernel
theorem dX7_copy_67 : decode cX7_copy 67 = .ok (.iconst 5, 1) := by decide +kernel
theorem dX7_copy_68 : decode cX7_copy 68 = .ok (.invokevirtual 74, 3) := by decide +kernel
theorem dX7_copy_71 : decode cX7_copy 71 = .ok (.ireturn, 1) := by decide +kernel
theorem dX7_copy_72 : decode cX7_copy 72 = .ok (.iload_n 2, 1) := by decide +kernel
theorem dX7_copy_73 : decode cX7_copy 73 = .ok (.ifCond .lt 48, 3) := by decide +kernel
theorem dX7_copy_76 : decode cX7_copy 76 = .ok (.iload 4, 2) := by decide +kernel
theorem dX7_copy_78 : decode cX7_copy 78 = .ok (.ifCond .lt 43, 3) := by decide +kernel
theorem dX7_copy_81 : decode cX7_copy 81 = .ok (.iload 5, 2) := by decide +kernel
theorem dX7_copy_83 : decode cX7_copy 83 = .ok (.ifCond .lt 38, 3) := by decide +kernel
theorem dX7_copy_86 : decode cX7_copy 86 = .ok (.iload_n 2, 1) := by decide +kernel
theorem dX7_copy_87 : decode cX7_copy 87 = .ok (.i2l, 1) := by decide +kernel
theorem dX7_copy_88 : decode cX7_copy 88 = .ok (.iload 5, 2) := by decide +kernel
theorem dX7_copy_90 : decode cX7_copy 90 = .ok (.i2l, 1) := by decide +kernel
theorem dX7_copy_91 : decode cX7_copy 91 = .ok (.ladd, 1) := by decide +kernel
theorem dX7_copy_92 : decode cX7_copy 92 = .ok (.aload_n 0, 1) := by decide +kernel
theorem dX7_copy_93 : decode cX7_copy 93 = .ok (.getfield 13, 3) := by decide +kernel
theorem dX7_copy_96 : decode cX7_copy 96 = .ok (.iload_n 1, 1) := by decide +kernel
theorem dX7_copy_97 : decode cX7_copy 97 = .ok (.iaload, 1) := by decide +kernel
theorem dX7_copy_98 : decode cX7_copy 98 = .ok (.i2l, 1) := by decide +kernel
theorem dX7_copy_99 : decode cX7_copy 99 = .ok (.lcmp, 1) := by decide +kernel
theorem dX7_copy_100 : decode cX7_copy 100 = .ok (.ifCond .gt 21, 3) := by decide +kernel
theorem dX7_copy_103 : decode cX7_copy 103 = .ok (.iload 4, 2) := by decide +kernel
theorem dX7_copy_105 : decode cX7_copy 105 = .ok (.i2l, 1) := by decide +kernel
theorem dX7_copy_106 : decode cX7_copy 106 = .ok (.iload 5, 2) := by decide +kernel
theorem dX7_copy_108 : decode cX7_copy 108 = .ok (.i2l, 1) := by decide +kernel
theorem dX7_copy_109 : decode cX7_copy 109 = .ok (.ladd, 1) := by decide +kernel
theorem dX7_copy_110 : decode cX7_copy 110 = .ok (.aload_n 0, 1) := by decide +kernel
theorem dX7_copy_111 : decode cX7_copy 111 = .ok (.getfield 13, 3) := by decide +kernel
theorem dX7_copy_114 : decode cX7_copy 114 = .ok (.iload_n 3, 1) := by decide +kernel
theorem dX7_copy_115 : decode cX7_copy 115 = .ok (.iaload, 1) := by decide +kernel
theorem dX7_copy_116 : decode cX7_copy 116 = .ok (.i2l, 1) := by decide +kernel
theorem dX7_copy_117 : decode cX7_copy 117 = .ok (.lcmp, 1) := by decide +kernel
theorem dX7_copy_118 : decode cX7_copy 118 = .ok (.ifCond .le 9, 3) := by decide +kernel
theorem dX7_copy_121 : decode cX7_copy 121 = .ok (.aload_n 0, 1) := by decide +kernel
theorem dX7_copy_122 : decode cX7_copy 122 = .ok (.iconst 2, 1) := by decide +kernel
theorem dX7_copy_123 : decode cX7_copy 123 = .ok (.invokevirtual 74, 3) := by decide +kernel
theorem dX7_copy_126 : decode cX7_copy 126 = .ok (.ireturn, 1) := by decide +kernel
theorem dX7_copy_127 : decode cX7_copy 127 = .ok (.iload_n 2, 1) := by decide +kernel
theorem dX7_copy_128 : decode cX7_copy 128 = .ok (.iload 4, 2) := by decide +kernel
theorem dX7_copy_130 : decode cX7_copy 130 = .ok (.if_icmp .lt 7, 3) := by decide +kernel
theorem dX7_copy_133 : decode cX7_copy 133 = .ok (.iconst 1, 1) := by decide +kernel
theorem dX7_copy_134 : decode cX7_copy 134 = .ok (.goto 4, 3) := by decide +kernel
theorem dX7_copy_137 : decode cX7_copy 137 = .ok (.iconst 0, 1) := by decide +kernel
theorem dX7_copy_138 : decode cX7_copy 138 = .ok (.istore 6, 2) := by decide +kernel
theorem dX7_copy_140 : decode cX7_copy 140 = .ok (.iconst 0, 1) := by decide +kernel
theorem dX7_copy_141 : decode cX7_copy 141 = .ok (.istore 7, 2) := by decide +kernel
theorem dX7_copy_143 : decode cX7_copy 143 = .ok (.iload 7, 2) := by decide +kernel
theorem dX7_copy_145 : decode cX7_copy 145 = .ok (.iload 5, 2) := by decide +kernel
theorem dX7_copy_147 : decode cX7_copy 147 = .ok (.if_icmp .ge 57, 3) := by decide +kernel
theorem dX7_copy_150 : decode cX7_copy 150 = .ok (.iload 6, 2) := by decide +kernel
theorem dX7_copy_152 : decode cX7_copy 152 = .ok (.ifCond .eq 8, 3) := by decide +kernel
theorem dX7_copy_155 : decode cX7_copy 155 = .ok (.iload 7, 2) := by decide +kernel
theorem dX7_copy_157 : decode cX7_copy 157 = .ok (.goto 10, 3) := by decide +kernel
theorem dX7_copy_160 : decode cX7_copy 160 = .ok (.iload 5, 2) := by decide +kernel
theorem dX7_copy_162 : decode cX7_copy 162 = .ok (.iconst 1, 1) := by decide +kernel
theorem dX7_copy_163 : decode cX7_copy 163 = .ok (.isub, 1) := by decide +kernel
theorem dX7_copy_164 : decode cX7_copy 164 = .ok (.iload 7, 2) := by decide +kernel
theorem dX7_copy_166 : decode cX7_copy 166 = .ok (.isub, 1) := by decide +kernel
theorem dX7_copy_167 : decode cX7_copy 167 = .ok (.istore 8, 2) := by decide +kernel
theorem dX7_copy_169 : decode cX7_copy 169 = .ok (.aload_n 0, 1) := by decide +kernel
theorem dX7_copy_170 : decode cX7_copy 170 = .ok (.getfield 16, 3) := by decide +kernel
theorem dX7_copy_173 : decode cX7_copy 173 = .ok (.bipush 40, 2) := by decide +kernel
theorem dX7_copy_175 : decode cX7_copy 175 = .ok (.iload_n 3, 1) := by decide +kernel
theorem dX7_copy_176 : decode cX7_copy 176 = .ok (.imul, 1) := by decide +kernel
theorem dX7_copy_177 : decode cX7_copy 177 = .ok (.iload 4, 2) := by decide +kernel
theorem dX7_copy_179 : decode cX7_copy 179 = .ok (.iadd, 1) := by decide +kernel
theorem dX7_copy_180 : decode cX7_copy 180 = .ok (.iload 8, 2) := by decide +kernel
theorem dX7_copy_182 : decode cX7_copy 182 = .ok (.iadd, 1) := by decide +kernel
theorem dX7_copy_183 : decode cX7_copy 183 = .ok (.aload_n 0, 1) := by decide +kernel
theorem dX7_copy_184 : decode cX7_copy 184 = .ok (.getfield 16, 3) := by decide +kernel
theorem dX7_copy_187 : decode cX7_copy 187 = .ok (.bipush 40, 2) := by decide +kernel
theorem dX7_copy_189 : decode cX7_copy 189 = .ok (.iload_n 1, 1) := by decide +kernel
theorem dX7_copy_190 : decode cX7_copy 190 = .ok (.imul, 1) := by decide +kernel
theorem dX7_copy_191 : decode cX7_copy 191 = .ok (.iload_n 2, 1) := by decide +kernel
theorem dX7_copy_192 : decode cX7_copy 192 = .ok (.iadd, 1) := by decide +kernel
theorem dX7_copy_193 : decode cX7_copy 193 = .ok (.iload 8, 2) := by decide +kernel
theorem dX7_copy_195 : decode cX7_copy 195 = .ok (.iadd, 1) := by decide +kernel
theorem dX7_copy_196 : decode cX7_copy 196 = .ok (.iaload, 1) := by decide +kernel
theorem dX7_copy_197 : decode cX7_copy 197 = .ok (.iastore, 1) := by decide +kernel
theorem dX7_copy_198 : decode cX7_copy 198 = .ok (.iinc 7 1, 3) := by decide +kernel
theorem dX7_copy_201 : decode cX7_copy 201 = .ok (.goto (-58), 3) := by decide +kernel
theorem dX7_copy_204 : decode cX7_copy 204 = .ok (.iload 5, 2) := by decide +kernel
theorem dX7_copy_206 : decode cX7_copy 206 = .ok (.ireturn, 1) := by decide +kernel
theorem dX7_drop_0 : decode cX7_drop 0 = .ok (.aload_n 0, 1) := by decide +kernel
theorem dX7_drop_1 : decode cX7_drop 1 = .ok (.iconst 0, 1) := by decide +kernel
theorem dX7_drop_2 : decode cX7_drop 2 = .ok (.putfield 53, 3) := by decide +kernel
theorem dX7_drop_5 : decode cX7_drop 5 = .ok (.iload_n 1, 1) := by decide +kernel
theorem dX7_drop_6 : decode cX7_drop 6 = .ok (.invokestatic 67, 3) := by decide +kernel
theorem dX7_drop_9 : decode cX7_drop 9 = .ok (.ifCond .ne 6, 3) := by decide +kernel
theorem dX7_drop_12 : decode cX7_drop 12 = .ok (.ldc 73, 2) := by decide +kernel
theorem dX7_drop_14 : decode cX7_drop 14 = .ok (.ireturn, 1) := by decide +kernel
theorem dX7_drop_15 : decode cX7_drop 15 = .ok (.aload_n 0, 1) := by decide +kernel
theorem dX7_drop_16 : decode cX7_drop 16 = .ok (.iconst 0, 1) := by decide +kernel
theorem dX7_drop_17 : decode cX7_drop 17 = .ok (.putfield 57, 3) := by decide +kernel
theorem dX7_drop_20 : decode cX7_drop 20 = .ok (.aload_n 0, 1) := by decide +kernel
theorem dX7_drop_21 : decode cX7_drop 21 = .ok (.getfield 7, 3) := by decide +kernel
theorem dX7_drop_24 : decode cX7_drop 24 = .ok (.iload_n 1, 1) := by decide +kernel
theorem dX7_drop_25 : decode cX7_drop 25 = .ok (.iaload, 1) := by decide +kernel
theorem dX7_drop_26 : decode cX7_drop 26 = .ok (.ifCond .ge 9, 3) := by decide +kernel
theorem dX7_drop_29 : decode cX7_drop 29 = .ok (.aload_n 0, 1) := by decide +kernel
theorem dX7_drop_30 : decode cX7_drop 30 = .ok (.iconst 1, 1) := by decide +kernel
theorem dX7_drop_31 : decode cX7_drop 31 = .ok (.invokevirtual 74, 3) := by decide +kernel
theorem dX7_drop_34 : decode cX7_drop 34 = .ok (.ireturn, 1) := by decide +kernel
theorem dX7_drop_35 : decode cX7_drop 35 = .ok (.aload_n 0, 1) := by decide +kernel
theorem dX7_drop_36 : decode cX7_drop 36 = .ok (.getfield 7, 3) := by decide +kernel
theorem dX7_drop_39 : decode cX7_drop 39 = .ok (.iload_n 1, 1) := by decide +kernel
theorem dX7_drop_40 : decode cX7_drop 40 = .ok (.iconst (-1), 1) := by decide +kernel
theorem dX7_drop_41 : decode cX7_drop 41 = .ok (.iastore, 1) := by decide +kernel
theorem dX7_drop_42 : decode cX7_drop 42 = .ok (.aload_n 0, 1) := by decide +kernel
theorem dX7_drop_43 : decode cX7_drop 43 = .ok (.getfield 13, 3) := by decide +kernel
theorem dX7_drop_46 : decode cX7_drop 46 = .ok (.iload_n 1, 1) := by decide +kernel
theorem dX7_drop_47 : decode cX7_drop 47 = .ok (.iaload, 1) := by decide +kernel
theorem dX7_drop_48 : decode cX7_drop 48 = .ok (.ireturn, 1) := by decide +kernel
theorem dX7_feed_0 : decode cX7_feed 0 = .ok (.aload_n 0, 1) := by decide +kernel
theorem dX7_feed_1 : decode cX7_feed 1 = .ok (.iconst 0, 1) := by decide +kernel
theorem dX7_feed_2 : decode cX7_feed 2 = .ok (.putfield 53, 3) := by decide +kernel
theorem dX7_feed_5 : decode cX7_feed 5 = .ok (.iload_n 1, 1) := by decide +kernel
theorem dX7_feed_6 : decode cX7_feed 6 = .ok (.i2l, 1) := by decide +kernel
theorem dX7_feed_7 : decode cX7_feed 7 = .ok (.lconst 0, 1) := by decide +kernel
theorem dX7_feed_8 : decode cX7_feed 8 = .ok (.ldc2_w 78, 3) := by decide +kernel
theorem dX7_feed_11 : decode cX7_feed 11 = .ok (.invokestatic 63, 3) := by decide +kernel
theorem dX7_feed_14 : decode cX7_feed 14 = .ok (.ifCond .ne 6, 3) := by decide +kernel
theorem dX7_feed_17 : decode cX7_feed 17 = .ok (.ldc 73, 2) := by decide +kernel
theorem dX7_feed_19 : decode cX7_feed 19 = .ok (.ireturn, 1) := by decide +kernel
theorem dX7_feed_20 : decode cX7_feed 20 = .ok (.aload_n 0, 1) := by decide +kernel
theorem dX7_feed_21 : decode cX7_feed 21 = .ok (.getfield 80, 3) := by decide +kernel
theorem dX7_feed_24 : decode cX7_feed 24 = .ok (.sipush 130, 3) := by decide +kernel
theorem dX7_feed_27 : decode cX7_feed 27 = .ok (.if_icmp .ne 6, 3) := by decide +kernel
theorem dX7_feed_30 : decode cX7_feed 30 = .ok (.ldc 83, 2) := by decide +kernel
theorem dX7_feed_32 : decode cX7_feed 32 = .ok (.ireturn, 1) := by decide +kernel
theorem dX7_feed_33 : decode cX7_feed 33 = .ok (.aload_n 0, 1) := by decide +kernel
theorem dX7_feed_34 : decode cX7_feed 34 = .ok (.getfield 31, 3) := by decide +kernel
theorem dX7_feed_37 : decode cX7_feed 37 = .ok (.aload_n 0, 1) := by decide +kernel
theorem dX7_feed_38 : decode cX7_feed 38 = .ok (.getfield 80, 3) := by decide +kernel
theorem dX7_feed_41 : decode cX7_feed 41 = .ok (.iload_n 1, 1) := by decide +kernel
theorem dX7_feed_42 : decode cX7_feed 42 = .ok (.iastore, 1) := by decide +kernel
theorem dX7_feed_43 : decode cX7_feed 43 = .ok (.aload_n 0, 1) := by decide +kernel
theorem dX7_feed_44 : decode cX7_feed 44 = .ok (.dup, 1) := by decide +kernel
theorem dX7_feed_45 : decode cX7_feed 45 = .ok (.getfield 80, 3) := by decide +kernel
theorem dX7_feed_48 : decode cX7_feed 48 = .ok (.iconst 1, 1) := by decide +kernel
theorem dX7_feed_49 : decode cX7_feed 49 = .ok (.iadd, 1) := by decide +kernel
theorem dX7_feed_50 : decode cX7_feed 50 = .ok (.putfield 80, 3) := by decide +kernel
theorem dX7_feed_53 : decode cX7_feed 53 = .ok (.aload_n 0, 1) := by decide +kernel
theorem dX7_feed_54 : decode cX7_feed 54 = .ok (.getfield 80, 3) := by decide +kernel
theorem dX7_feed_57 : decode cX7_feed 57 = .ok (.ireturn, 1) := by decide +kernel
theorem dX7_bad_0 : decode cX7_bad 0 = .ok (.aload_n 0, 1) := by decide +kernel
theorem dX7_bad_1 : decode cX7_bad 1 = .ok (.getfield 84, 3) := by decide +kernel
theorem dX7_bad_4 : decode cX7_bad 4 = .ok (.ifCond .ne 16, 3) := by decide +kernel
theorem dX7_bad_7 : decode cX7_bad 7 = .ok (.aload_n 0, 1) := by decide +kernel
theorem dX7_bad_8 : decode cX7_bad 8 = .ok (.iload_n 1, 1) := by decide +kernel
theorem dX7_bad_9 : decode cX7_bad 9 = .ok (.putfield 84, 3) := by decide +kernel
theorem dX7_bad_12 : decode cX7_bad 12 = .ok (.aload_n 0, 1) := by decide +kernel
theorem dX7_bad_13 : decode cX7_bad 13 = .ok (.aload_n 0, 1) := by decide +kernel
theorem dX7_bad_14 : decode cX7_bad 14 = .ok (.getfield 87, 3) := by decide +kernel
theorem dX7_bad_17 : decode cX7_bad 17 = .ok (.putfield 90, 3) := by decide +kernel
theorem dX7_bad_20 : decode cX7_bad 20 = .ok (.return_, 1) := by decide +kernel
theorem dX7_nextToken_0 : decode cX7_nextToken 0 = .ok (.aload_n 0, 1) := by decide +kernel
theorem dX7_nextToken_1 : decode cX7_nextToken 1 = .ok (.aload_n 0, 1) := by decide +kernel
theorem dX7_nextToken_2 : decode cX7_nextToken 2 = .ok (.getfield 93, 3) := by decide +kernel
theorem dX7_nextToken_5 : decode cX7_nextToken 5 = .ok (.putfield 87, 3) := by decide +kernel
theorem dX7_nextToken_8 : decode cX7_nextToken 8 = .ok (.aload_n 0, 1) := by decide +kernel
theorem dX7_nextToken_9 : decode cX7_nextToken 9 = .ok (.aload_n 0, 1) := by decide +kernel
theorem dX7_nextToken_10 : decode cX7_nextToken 10 = .ok (.getfield 93, 3) := by decide +kernel
theorem dX7_nextToken_13 : decode cX7_nextToken 13 = .ok (.aload_n 0, 1) := by decide +kernel
theorem dX7_nextToken_14 : decode cX7_nextToken 14 = .ok (.getfield 80, 3) := by decide +kernel
theorem dX7_nextToken_17 : decode cX7_nextToken 17 = .ok (.if_icmp .ge 15, 3) := by decide +kernel
theorem dX7_nextToken_20 : decode cX7_nextToken 20 = .ok (.aload_n 0, 1) := by decide +kernel
theorem dX7_nextToken_21 : decode cX7_nextToken 21 = .ok (.getfield 31, 3) := by decide +kernel
theorem dX7_nextToken_24 : decode cX7_nextToken 24 = .ok (.aload_n 0, 1) := by decide +kernel
theorem dX7_nextToken_25 : decode cX7_nextToken 25 = .ok (.getfield 93, 3) := by decide +kernel
theorem dX7_nextToken_28 : decode cX7_nextToken 28 = .ok (.iaload, 1) := by decide +kernel
theorem dX7_nextToken_29 : decode cX7_nextToken 29 = .ok (.goto 5, 3) := by decide +kernel
theorem dX7_nextToken_32 : decode cX7_nextToken 32 = .ok (.ldc 96, 2) := by decide +kernel
theorem dX7_nextToken_34 : decode cX7_nextToken 34 = .ok (.putfield 97, 3) := by decide +kernel
theorem dX7_nextToken_37 : decode cX7_nextToken 37 = .ok (.aload_n 0, 1) := by decide +kernel
theorem dX7_nextToken_38 : decode cX7_nextToken 38 = .ok (.aload_n 0, 1) := by decide +kernel
theorem dX7_nextToken_39 : decode cX7_nextToken 39 = .ok (.getfield 93, 3) := by decide +kernel
theorem dX7_nextToken_42 : decode cX7_nextToken 42 = .ok (.aload_n 0, 1) := by decide +kernel
theorem dX7_nextToken_43 : decode cX7_nextToken 43 = .ok (.getfield 80, 3) := by decide +kernel
theorem dX7_nextToken_46 : decode cX7_nextToken 46 = .ok (.if_icmp .ne 7, 3) := by decide +kernel
theorem dX7_nextToken_49 : decode cX7_nextToken 49 = .ok (.iconst 1, 1) := by decide +kernel
theorem dX7_nextToken_50 : decode cX7_nextToken 50 = .ok (.goto 68, 3) := by decide +kernel
theorem dX7_nextToken_53 : decode cX7_nextToken 53 = .ok (.aload_n 0, 1) := by decide +kernel
theorem dX7_nextToken_54 : decode cX7_nextToken 54 = .ok (.getfield 97, 3) := by decide +kernel
theorem dX7_nextToken_57 : decode cX7_nextToken 57 = .ok (.i2l, 1) := by decide +kernel
theorem dX7_nextToken_58 : decode cX7_nextToken 58 = .ok (.ldc2_w 100, 3) := by decide +kernel
theorem dX7_nextToken_61 : decode cX7_nextToken 61 = .ok (.ldc2_w 102, 3) := by decide +kernel
theorem dX7_nextToken_64 : decode cX7_nextToken 64 = .ok (.invokestatic 63, 3) := by decide +kernel
theorem dX7_nextToken_67 : decode cX7_nextToken 67 = .ok (.ifCond .eq 7, 3) := by decide +kernel
theorem dX7_nextToken_70 : decode cX7_nextToken 70 = .ok (.iconst 2, 1) := by decide +kernel
theorem dX7_nextToken_71 : decode cX7_nextToken 71 = .ok (.goto 47, 3) := by decide +kernel
theorem dX7_nextToken_74 : decode cX7_nextToken 74 = .ok (.aload_n 0, 1) := by decide +kernel
theorem dX7_nextToken_75 : decode cX7_nextToken 75 = .ok (.getfield 97, 3) := by decide +kernel
theorem dX7_nextToken_78 : decode cX7_nextToken 78 = .ok (.i2l, 1) := by decide +kernel
theorem dX7_nextToken_79 : decode cX7_nextToken 79 = .ok (.ldc2_w 104, 3) := by decide +kernel
theorem dX7_nextToken_82 : decode cX7_nextToken 82 = .ok (.ldc2_w 106, 3) := by decide +kernel
theorem dX7_nextToken_85 : decode cX7_nextToken 85 = .ok (.invokestatic 63, 3) := by decide +kernel
theorem dX7_nextToken_88 : decode cX7_nextToken 88 = .ok (.ifCond .eq 7, 3) := by decide +kernel
theorem dX7_nextToken_91 : decode cX7_nextToken 91 = .ok (.iconst 3, 1) := by decide +kernel
theorem dX7_nextToken_92 : decode cX7_nextToken 92 = .ok (.goto 26, 3) := by decide +kernel
theorem dX7_nextToken_95 : decode cX7_nextToken 95 = .ok (.aload_n 0, 1) := by decide +kernel
theorem dX7_nextToken_96 : decode cX7_nextToken 96 = .ok (.getfield 97, 3) := by decide +kernel
theorem dX7_nextToken_99 : decode cX7_nextToken 99 = .ok (.bipush 44, 2) := by decide +kernel
theorem dX7_nextToken_101 : decode cX7_nextToken 101 = .ok (.if_icmp .eq 12, 3) := by decide +kernel
theorem dX7_nextToken_104 : decode cX7_nextToken 104 = .ok (.aload_n 0, 1) := by decide +kernel
theorem dX7_nextToken_105 : decode cX7_nextToken 105 = .ok (.getfield 97, 3) := by decide +kernel
theorem dX7_nextToken_108 : decode cX7_nextToken 108 = .ok (.bipush 59, 2) := by decide +kernel
theorem dX7_nextToken_110 : decode cX7_nextToken 110 = .ok (.if_icmp .ne 7, 3) := by decide +kernel
theorem dX7_nextToken_113 : decode cX7_nextToken 113 = .ok (.iconst 4, 1) := by decide +kernel
theorem dX7_nextToken_114 : decode cX7_nextToken 114 = .ok (.goto 4, 3) := by decide +kernel
theorem dX7_nextToken_117 : decode cX7_nextToken 117 = .ok (.iconst 0, 1) := by decide +kernel
theorem dX7_nextToken_118 : decode cX7_nextToken 118 = .ok (.putfield 108, 3) := by decide +kernel
theorem dX7_nextToken_121 : decode cX7_nextToken 121 = .ok (.aload_n 0, 1) := by decide +kernel
theorem dX7_nextToken_122 : decode cX7_nextToken 122 = .ok (.dup, 1) := by decide +kernel
theorem dX7_nextToken_123 : decode cX7_nextToken 123 = .ok (.getfield 93, 3) := by decide +kernel
theorem dX7_nextToken_126 : decode cX7_nextToken 126 = .ok (.aload_n 0, 1) := by decide +kernel
theorem dX7_nextToken_127 : decode cX7_nextToken 127 = .ok (.getfield 93, 3) := by decide +kernel
theorem dX7_nextToken_130 : decode cX7_nextToken 130 = .ok (.aload_n 0, 1) := by decide +kernel
theorem dX7_nextToken_131 : decode cX7_nextToken 131 = .ok (.getfield 80, 3) := by decide +kernel
theorem dX7_nextToken_134 : decode cX7_nextToken 134 = .ok (.if_icmp .ge 7, 3) := by decide +kernel
theorem dX7_nextToken_137 : decode cX7_nextToken 137 = .ok (.iconst 1, 1) := by decide +kernel
theorem dX7_nextToken_138 : decode cX7_nextToken 138 = .ok (.goto 4, 3) := by decide +kernel
theorem dX7_nextToken_141 : decode cX7_nextToken 141 = .ok (.iconst 0, 1) := by decide +kernel
theorem dX7_nextToken_142 : decode cX7_nextToken 142 = .ok (.iadd, 1) := by decide +kernel
theorem dX7_nextToken_143 : decode cX7_nextToken 143 = .ok (.putfield 93, 3) := by decide +kernel
theorem dX7_nextToken_146 : decode cX7_nextToken 146 = .ok (.aload_n 0, 1) := by decide +kernel
theorem dX7_nextToken_147 : decode cX7_nextToken 147 = .ok (.getfield 108, 3) := by decide +kernel
theorem dX7_nextToken_150 : decode cX7_nextToken 150 = .ok (.iconst 3, 1) := by decide +kernel
theorem dX7_nextToken_151 : decode cX7_nextToken 151 = .ok (.if_icmp .ne 126, 3) := by decide +kernel
theorem dX7_nextToken_154 : decode cX7_nextToken 154 = .ok (.aload_n 0, 1) := by decide +kernel
theorem dX7_nextToken_155 : decode cX7_nextToken 155 = .ok (.dup, 1) := by decide +kernel
theorem dX7_nextToken_156 : decode cX7_nextToken 156 = .ok (.getfield 97, 3) := by decide +kernel
theorem dX7_nextToken_159 : decode cX7_nextToken 159 = .ok (.bipush 48, 2) := by decide +kernel
theorem dX7_nextToken_161 : decode cX7_nextToken 161 = .ok (.isub, 1) := by decide +kernel
theorem dX7_nextToken_162 : decode cX7_nextToken 162 = .ok (.putfield 97, 3) := by decide +kernel
theorem dX7_nextToken_165 : decode cX7_nextToken 165 = .ok (.aload_n 0, 1) := by decide +kernel
theorem dX7_nextToken_166 : decode cX7_nextToken 166 = .ok (.getfield 93, 3) := by decide +kernel
theorem dX7_nextToken_169 : decode cX7_nextToken 169 = .ok (.aload_n 0, 1) := by decide +kernel
theorem dX7_nextToken_170 : decode cX7_nextToken 170 = .ok (.getfield 80, 3) := by decide +kernel
theorem dX7_nextToken_173 : decode cX7_nextToken 173 = .ok (.if_icmp .ge 82, 3) := by decide +kernel
theorem dX7_nextToken_176 : decode cX7_nextToken 176 = .ok (.aload_n 0, 1) := by decide +kernel
theorem dX7_nextToken_177 : decode cX7_nextToken 177 = .ok (.getfield 31, 3) := by decide +kernel
theorem dX7_nextToken_180 : decode cX7_nextToken 180 = .ok (.aload_n 0, 1) := by decide +kernel
theorem dX7_nextToken_181 : decode cX7_nextToken 181 = .ok (.getfield 93, 3) := by decide +kernel
theorem dX7_nextToken_184 : decode cX7_nextToken 184 = .ok (.iaload, 1) := by decide +kernel
theorem dX7_nextToken_185 : decode cX7_nextToken 185 = .ok (.i2l, 1) := by decide +kernel
theorem dX7_nextToken_186 : decode cX7_nextToken 186 = .ok (.ldc2_w 104, 3) := by decide +kernel
theorem dX7_nextToken_189 : decode cX7_nextToken 189 = .ok (.ldc2_w 106, 3) := by decide +kernel
theorem dX7_nextToken_192 : decode cX7_nextToken 192 = .ok (.invokestatic 63, 3) := by decide +kernel
theorem dX7_nextToken_195 : decode cX7_nextToken 195 = .ok (.ifCond .eq 60, 3) := by decide +kernel
theorem dX7_nextToken_198 : decode cX7_nextToken 198 = .ok (.aload_n 0, 1) := by decide +kernel
theorem dX7_nextToken_199 : decode cX7_nextToken 199 = .ok (.aload_n 0, 1) := by decide +kernel
theorem dX7_nextToken_200 : decode cX7_nextToken 200 = .ok (.getfield 93, 3) := by decide +kernel
theorem dX7_nextToken_203 : decode cX7_nextToken 203 = .ok (.aload_n 0, 1) := by decide +kernel
theorem dX7_nextToken_204 : decode cX7_nextToken 204 = .ok (.getfield 87, 3) := by decide +kernel
theorem dX7_nextToken_207 : decode cX7_nextToken 207 = .ok (.isub, 1) := by decide +kernel
theorem dX7_nextToken_208 : decode cX7_nextToken 208 = .ok (.iconst 2, 1) := by decide +kernel
theorem dX7_nextToken_209 : decode cX7_nextToken 209 = .ok (.if_icmp .ge 26, 3) := by decide +kernel
theorem dX7_nextToken_212 : decode cX7_nextToken 212 = .ok (.bipush 10, 2) := by decide +kernel
theorem dX7_nextToken_214 : decode cX7_nextToken 214 = .ok (.aload_n 0, 1) := by decide +kernel
theorem dX7_nextToken_215 : decode cX7_nextToken 215 = .ok (.getfield 97, 3) := by decide +kernel
theorem dX7_nextToken_218 : decode cX7_nextToken 218 = .ok (.imul, 1) := by decide +kernel
theorem dX7_nextToken_219 : decode cX7_nextToken 219 = .ok (.aload_n 0, 1) := by decide +kernel
theorem dX7_nextToken_220 : decode cX7_nextToken 220 = .ok (.getfield 31, 3) := by decide +kernel
theorem dX7_nextToken_223 : decode cX7_nextToken 223 = .ok (.aload_n 0, 1) := by decide +kernel
theorem dX7_nextToken_224 : decode cX7_nextToken 224 = .ok (.getfield 93, 3) := by decide +kernel
theorem dX7_nextToken_227 : decode cX7_nextToken 227 = .ok (.iaload, 1) := by decide +kernel
theorem dX7_nextToken_228 : decode cX7_nextToken 228 = .ok (.iadd, 1) := by decide +kernel
theorem dX7_nextToken_229 : decode cX7_nextToken 229 = .ok (.bipush 48, 2) := by decide +kernel
theorem dX7_nextToken_231 : decode cX7_nextToken 231 = .ok (.isub, 1) := by decide +kernel
theorem dX7_nextToken_232 : decode cX7_nextToken 232 = .ok (.goto 7, 3) := by decide +kernel
theorem dX7_nextToken_235 : decode cX7_nextToken 235 = .ok (.aload_n 0, 1) := by decide +kernel
theorem dX7_nextToken_236 : decode cX7_nextToken 236 = .ok (.getfield 97, 3) := by decide +kernel
theorem dX7_nextToken_239 : decode cX7_nextToken 239 = .ok (.putfield 97, 3) := by decide +kernel
theorem dX7_nextToken_242 : decode cX7_nextToken 242 = .ok (.aload_n 0, 1) := by decide +kernel
theorem dX7_nextToken_243 : decode cX7_nextToken 243 = .ok (.dup, 1) := by decide +kernel
theorem dX7_nextToken_244 : decode cX7_nextToken 244 = .ok (.getfield 93, 3) := by decide +kernel
theorem dX7_nextToken_247 : decode cX7_nextToken 247 = .ok (.iconst 1, 1) := by decide +kernel
theorem dX7_nextToken_248 : decode cX7_nextToken 248 = .ok (.iadd, 1) := by decide +kernel
theorem dX7_nextToken_249 : decode cX7_nextToken 249 = .ok (.putfield 93, 3) := by decide +kernel
theorem dX7_nextToken_252 : decode cX7_nextToken 252 = .ok (.goto (-87), 3) := by decide +kernel
theorem dX7_nextToken_255 : decode cX7_nextToken 255 = .ok (.aload_n 0, 1) := by decide +kernel
theorem dX7_nextToken_256 : decode cX7_nextToken 256 = .ok (.aload_n 0, 1) := by decide +kernel
theorem dX7_nextToken_257 : decode cX7_nextToken 257 = .ok (.getfield 93, 3) := by decide +kernel
theorem dX7_nextToken_260 : decode cX7_nextToken 260 = .ok (.aload_n 0, 1) := by decide +kernel
theorem dX7_nextToken_261 : decode cX7_nextToken 261 = .ok (.getfield 87, 3) := by decide +kernel
theorem dX7_nextToken_264 : decode cX7_nextToken 264 = .ok (.isub, 1) := by decide +kernel
theorem dX7_nextToken_265 : decode cX7_nextToken 265 = .ok (.iconst 2, 1) := by decide +kernel
theorem dX7_nextToken_266 : decode cX7_nextToken 266 = .ok (.if_icmp .le 7, 3) := by decide +kernel
theorem dX7_nextToken_269 : decode cX7_nextToken 269 = .ok (.iconst 0, 1) := by decide +kernel
theorem dX7_nextToken_270 : decode cX7_nextToken 270 = .ok (.goto 4, 3) := by decide +kernel
theorem dX7_nextToken_273 : decode cX7_nextToken 273 = .ok (.iconst 3, 1) := by decide +kernel
theorem dX7_nextToken_274 : decode cX7_nextToken 274 = .ok (.putfield 108, 3) := by decide +kernel
theorem dX7_nextToken_277 : decode cX7_nextToken 277 = .ok (.return_, 1) := by decide +kernel
theorem dX7_must_0 : decode cX7_must 0 = .ok (.iload_n 1, 1) := by decide +kernel
theorem dX7_must_1 : decode cX7_must 1 = .ok (.ifCond .ne 8, 3) := by decide +kernel
theorem dX7_must_4 : decode cX7_must 4 = .ok (.aload_n 0, 1) := by decide +kernel
theorem dX7_must_5 : decode cX7_must 5 = .ok (.iconst 1, 1) := by decide +kernel
theorem dX7_must_6 : decode cX7_must 6 = .ok (.invokevirtual 111, 3) := by decide +kernel
theorem dX7_must_9 : decode cX7_must 9 = .ok (.aload_n 0, 1) := by decide +kernel
theorem dX7_must_10 : decode cX7_must 10 = .ok (.getfield 84, 3) := by decide +kernel
theorem dX7_must_13 : decode cX7_must 13 = .ok (.ifCond .ne 7, 3) := by decide +kernel
theorem dX7_must_16 : decode cX7_must 16 = .ok (.aload_n 0, 1) := by decide +kernel
theorem dX7_must_17 : decode cX7_must 17 = .ok (.invokevirtual 115, 3) := by decide +kernel
theorem dX7_must_20 : decode cX7_must 20 = .ok (.return_, 1) := by decide +kernel
theorem dX7_isLetter_0 : decode cX7_isLetter 0 = .ok (.aload_n 0, 1) := by decide +kernel
theorem dX7_isLetter_1 : decode cX7_isLetter 1 = .ok (.getfield 84, 3) := by decide +kernel
theorem dX7_isLetter_4 : decode cX7_isLetter 4 = .ok (.ifCond .ne 23, 3) := by decide +kernel
theorem dX7_isLetter_7 : decode cX7_isLetter 7 = .ok (.aload_n 0, 1) := by decide +kernel
theorem dX7_isLetter_8 : decode cX7_isLetter 8 = .ok (.getfield 108, 3) := by decide +kernel
theorem dX7_isLetter_11 : decode cX7_isLetter 11 = .ok (.iconst 2, 1) := by decide +kernel
theorem dX7_isLetter_12 : decode cX7_isLetter 12 = .ok (.if_icmp .ne 15, 3) := by decide +kernel
theorem dX7_isLetter_15 : decode cX7_isLetter 15 = .ok (.aload_n 0, 1) := by decide +kernel
theorem dX7_isLetter_16 : decode cX7_isLetter 16 = .ok (.getfield 97, 3) := by decide +kernel
theorem dX7_isLetter_19 : decode cX7_isLetter 19 = .ok (.iload_n 1, 1) := by decide +kernel
theorem dX7_isLetter_20 : decode cX7_isLetter 20 = .ok (.if_icmp .ne 7, 3) := by decide +kernel
theorem dX7_isLetter_23 : decode cX7_isLetter 23 = .ok (.iconst 1, 1) := by decide +kernel
theorem dX7_isLetter_24 : decode cX7_isLetter 24 = .ok (.goto 4, 3) := by decide +kernel
theorem dX7_isLetter_27 : decode cX7_isLetter 27 = .ok (.iconst 0, 1) := by decide +kernel
theorem dX7_isLetter_28 : decode cX7_isLetter 28 = .ok (.ireturn, 1) := by decide +kernel
theorem dX7_number_0 : decode cX7_number 0 = .ok (.aload_n 0, 1) := by decide +kernel
theorem dX7_number_1 : decode cX7_number 1 = .ok (.getfield 84, 3) := by decide +kernel
theorem dX7_number_4 : decode cX7_number 4 = .ok (.ifCond .ne 16, 3) := by decide +kernel
theorem dX7_number_7 : decode cX7_number 7 = .ok (.aload_n 0, 1) := by decide +kernel
theorem dX7_number_8 : decode cX7_number 8 = .ok (.getfield 108, 3) := by decide +kernel
theorem dX7_number_11 : decode cX7_number 11 = .ok (.iconst 3, 1) := by decide +kernel
theorem dX7_number_12 : decode cX7_number 12 = .ok (.if_icmp .eq 8, 3) := by decide +kernel
theorem dX7_number_15 : decode cX7_number 15 = .ok (.aload_n 0, 1) := by decide +kernel
theorem dX7_number_16 : decode cX7_number 16 = .ok (.iconst 1, 1) := by decide +kernel
theorem dX7_number_17 : decode cX7_number 17 = .ok (.invokevirtual 111, 3) := by decide +kernel
theorem dX7_number_20 : decode cX7_number 20 = .ok (.aload_n 0, 1) := by decide +kernel
theorem dX7_number_21 : decode cX7_number 21 = .ok (.getfield 84, 3) := by decide +kernel
theorem dX7_number_24 : decode cX7_number 24 = .ok (.ifCond .ne 23, 3) := by decide +kernel
theorem dX7_number_27 : decode cX7_number 27 = .ok (.aload_n 0, 1) := by decide +kernel
theorem dX7_number_28 : decode cX7_number 28 = .ok (.getfield 97, 3) := by decide +kernel
theorem dX7_number_31 : decode cX7_number 31 = .ok (.i2l, 1) := by decide +kernel
theorem dX7_number_32 : decode cX7_number 32 = .ok (.iload_n 1, 1) := by decide +kernel
theorem dX7_number_33 : decode cX7_number 33 = .ok (.i2l, 1) := by decide +kernel
theorem dX7_number_34 : decode cX7_number 34 = .ok (.iload_n 2, 1) := by decide +kernel
theorem dX7_number_35 : decode cX7_number 35 = .ok (.i2l, 1) := by decide +kernel
theorem dX7_number_36 : decode cX7_number 36 = .ok (.invokestatic 63, 3) := by decide +kernel
theorem dX7_number_39 : decode cX7_number 39 = .ok (.ifCond .ne 8, 3) := by decide +kernel
theorem dX7_number_42 : decode cX7_number 42 = .ok (.aload_n 0, 1) := by decide +kernel
theorem dX7_number_43 : decode cX7_number 43 = .ok (.iconst 2, 1) := by decide +kernel
theorem dX7_number_44 : decode cX7_number 44 = .ok (.invokevirtual 111, 3) := by decide +kernel
theorem dX7_number_47 : decode cX7_number 47 = .ok (.aload_n 0, 1) := by decide +kernel
theorem dX7_number_48 : decode cX7_number 48 = .ok (.getfield 84, 3) := by decide +kernel
theorem dX7_number_51 : decode cX7_number 51 = .ok (.ifCond .ne 10, 3) := by decide +kernel
theorem dX7_number_54 : decode cX7_number 54 = .ok (.aload_n 0, 1) := by decide +kernel
theorem dX7_number_55 : decode cX7_number 55 = .ok (.getfield 97, 3) := by decide +kernel
theorem dX7_number_58 : decode cX7_number 58 = .ok (.goto 4, 3) := by decide +kernel
theorem dX7_number_61 : decode cX7_number 61 = .ok (.iload_n 1, 1) := by decide +kernel
theorem dX7_number_62 : decode cX7_number 62 = .ok (.istore_n 3, 1) := by decide +kernel
theorem dX7_number_63 : decode cX7_number 63 = .ok (.aload_n 0, 1) := by decide +kernel
theorem dX7_number_64 : decode cX7_number 64 = .ok (.iconst 1, 1) := by decide +kernel
theorem dX7_number_65 : decode cX7_number 65 = .ok (.invokevirtual 118, 3) := by decide +kernel
theorem dX7_number_68 : decode cX7_number 68 = .ok (.iload_n 3, 1) := by decide +kernel
theorem dX7_number_69 : decode cX7_number 69 = .ok (.ireturn, 1) := by decide +kernel
theorem dX7_mustSign_0 : decode cX7_mustSign 0 = .ok (.aload_n 0, 1) := by decide +kernel
theorem dX7_mustSign_1 : decode cX7_mustSign 1 = .ok (.aload_n 0, 1) := by decide +kernel
theorem dX7_mustSign_2 : decode cX7_mustSign 2 = .ok (.getfield 108, 3) := by decide +kernel
theorem dX7_mustSign_5 : decode cX7_mustSign 5 = .ok (.iconst 4, 1) := by decide +kernel
theorem dX7_mustSign_6 : decode cX7_mustSign 6 = .ok (.if_icmp .ne 15, 3) := by decide +kernel
theorem dX7_mustSign_9 : decode cX7_mustSign 9 = .ok (.aload_n 0, 1) := by decide +kernel
theorem dX7_mustSign_10 : decode cX7_mustSign 10 = .ok (.getfield 97, 3) := by decide +kernel
theorem dX7_mustSign_13 : decode cX7_mustSign 13 = .ok (.iload_n 1, 1) := by decide +kernel
theorem dX7_mustSign_14 : decode cX7_mustSign 14 = .ok (.if_icmp .ne 7, 3) := by decide +kernel
theorem dX7_mustSign_17 : decode cX7_mustSign 17 = .ok (.iconst 1, 1) := by decide +kernel
theorem dX7_mustSign_18 : decode cX7_mustSign 18 = .ok (.goto 4, 3) := by decide +kernel
theorem dX7_mustSign_21 : decode cX7_mustSign 21 = .ok (.iconst 0, 1) := by decide +kernel
theorem dX7_mustSign_22 : decode cX7_mustSign 22 = .ok (.invokevirtual 118, 3) := by decide +kernel
theorem dX7_mustSign_25 : decode cX7_mustSign 25 = .ok (.return_, 1) := by decide +kernel
theorem dX7_begin_0 : decode cX7_begin 0 = .ok (.aload_n 0, 1) := by decide +kernel
theorem dX7_begin_1 : decode cX7_begin 1 = .ok (.iconst 0, 1) := by decide +kernel
theorem dX7_begin_2 : decode cX7_begin 2 = .ok (.putfield 93, 3) := by decide +kernel
theorem dX7_begin_5 : decode cX7_begin 5 = .ok (.aload_n 0, 1) := by decide +kernel
theorem dX7_begin_6 : decode cX7_begin 6 = .ok (.iconst 0, 1) := by decide +kernel
theorem dX7_begin_7 : decode cX7_begin 7 = .ok (.putfield 84, 3) := by decide +kernel
theorem dX7_begin_10 : decode cX7_begin 10 = .ok (.aload_n 0, 1) := by decide +kernel
theorem dX7_begin_11 : decode cX7_begin 11 = .ok (.invokevirtual 115, 3) := by decide +kernel
theorem dX7_begin_14 : decode cX7_begin 14 = .ok (.return_, 1) := by decide +kernel
theorem dX7_failed_0 : decode cX7_failed 0 = .ok (.aload_n 0, 1) := by decide +kernel
theorem dX7_failed_1 : decode cX7_failed 1 = .ok (.getfield 84, 3) := by decide +kernel
theorem dX7_failed_4 : decode cX7_failed 4 = .ok (.ifCond .ne 16, 3) := by decide +kernel
theorem dX7_failed_7 : decode cX7_failed 7 = .ok (.aload_n 0, 1) := by decide +kernel
theorem dX7_failed_8 : decode cX7_failed 8 = .ok (.getfield 108, 3) := by decide +kernel
theorem dX7_failed_11 : decode cX7_failed 11 = .ok (.iconst 1, 1) := by decide +kernel
theorem dX7_failed_12 : decode cX7_failed 12 = .ok (.if_icmp .eq 8, 3) := by decide +kernel
theorem dX7_failed_15 : decode cX7_failed 15 = .ok (.aload_n 0, 1) := by decide +kernel
theorem dX7_failed_16 : decode cX7_failed 16 = .ok (.iconst 1, 1) := by decide +kernel
theorem dX7_failed_17 : decode cX7_failed 17 = .ok (.invokevirtual 111, 3) := by decide +kernel
theorem dX7_failed_20 : decode cX7_failed 20 = .ok (.aload_n 0, 1) := by decide +kernel
theorem dX7_failed_21 : decode cX7_failed 21 = .ok (.iconst 0, 1) := by decide +kernel
theorem dX7_failed_22 : decode cX7_failed 22 = .ok (.putfield 80, 3) := by decide +kernel
theorem dX7_failed_25 : decode cX7_failed 25 = .ok (.aload_n 0, 1) := by decide +kernel
theorem dX7_failed_26 : decode cX7_failed 26 = .ok (.aload_n 0, 1) := by decide +kernel
theorem dX7_failed_27 : decode cX7_failed 27 = .ok (.getfield 84, 3) := by decide +kernel
theorem dX7_failed_30 : decode cX7_failed 30 = .ok (.ifCond .le 10, 3) := by decide +kernel
theorem dX7_failed_33 : decode cX7_failed 33 = .ok (.aload_n 0, 1) := by decide +kernel
theorem dX7_failed_34 : decode cX7_failed 34 = .ok (.getfield 84, 3) := by decide +kernel
theorem dX7_failed_37 : decode cX7_failed 37 = .ok (.goto 7, 3) := by decide +kernel
theorem dX7_failed_40 : decode cX7_failed 40 = .ok (.aload_n 0, 1) := by decide +kernel
theorem dX7_failed_41 : decode cX7_failed 41 = .ok (.getfield 122, 3) := by decide +kernel
theorem dX7_failed_44 : decode cX7_failed 44 = .ok (.putfield 122, 3) := by decide +kernel
theorem dX7_failed_47 : decode cX7_failed 47 = .ok (.aload_n 0, 1) := by decide +kernel
theorem dX7_failed_48 : decode cX7_failed 48 = .ok (.getfield 84, 3) := by decide +kernel
theorem dX7_failed_51 : decode cX7_failed 51 = .ok (.ifCond .le 7, 3) := by decide +kernel
theorem dX7_failed_54 : decode cX7_failed 54 = .ok (.iconst 1, 1) := by decide +kernel
theorem dX7_failed_55 : decode cX7_failed 55 = .ok (.goto 4, 3) := by decide +kernel
theorem dX7_failed_58 : decode cX7_failed 58 = .ok (.iconst 0, 1) := by decide +kernel
theorem dX7_failed_59 : decode cX7_failed 59 = .ok (.ireturn, 1) := by decide +kernel
theorem dX7_fault_0 : decode cX7_fault 0 = .ok (.aload_n 0, 1) := by decide +kernel
theorem dX7_fault_1 : decode cX7_fault 1 = .ok (.iconst 0, 1) := by decide +kernel
theorem dX7_fault_2 : decode cX7_fault 2 = .ok (.putfield 53, 3) := by decide +kernel
theorem dX7_fault_5 : decode cX7_fault 5 = .ok (.aload_n 0, 1) := by decide +kernel
theorem dX7_fault_6 : decode cX7_fault 6 = .ok (.getfield 122, 3) := by decide +kernel
theorem dX7_fault_9 : decode cX7_fault 9 = .ok (.ireturn, 1) := by decide +kernel
theorem dX7_kindBy_0 : decode cX7_kindBy 0 = .ok (.iload_n 0, 1) := by decide +kernel
theorem dX7_kindBy_1 : decode cX7_kindBy 1 = .ok (.bipush 112, 2) := by decide +kernel
theorem dX7_kindBy_3 : decode cX7_kindBy 3 = .ok (.if_icmp .ne 7, 3) := by decide +kernel
theorem dX7_kindBy_6 : decode cX7_kindBy 6 = .ok (.iconst 1, 1) := by decide +kernel
theorem dX7_kindBy_7 : decode cX7_kindBy 7 = .ok (.goto 45, 3) := by decide +kernel
theorem dX7_kindBy_10 : decode cX7_kindBy 10 = .ok (.iload_n 0, 1) := by decide +kernel
theorem dX7_kindBy_11 : decode cX7_kindBy 11 = .ok (.bipush 104, 2) := by decide +kernel
theorem dX7_kindBy_13 : decode cX7_kindBy 13 = .ok (.if_icmp .ne 7, 3) := by decide +kernel
theorem dX7_kindBy_16 : decode cX7_kindBy 16 = .ok (.iconst 2, 1) := by decide +kernel
theorem dX7_kindBy_17 : decode cX7_kindBy 17 = .ok (.goto 35, 3) := by decide +kernel
theorem dX7_kindBy_20 : decode cX7_kindBy 20 = .ok (.iload_n 0, 1) := by decide +kernel
theorem dX7_kindBy_21 : decode cX7_kindBy 21 = .ok (.bipush 98, 2) := by decide +kernel
theorem dX7_kindBy_23 : decode cX7_kindBy 23 = .ok (.if_icmp .ne 7, 3) := by decide +kernel
theorem dX7_kindBy_26 : decode cX7_kindBy 26 = .ok (.iconst 3, 1) := by decide +kernel
theorem dX7_kindBy_27 : decode cX7_kindBy 27 = .ok (.goto 25, 3) := by decide +kernel
theorem dX7_kindBy_30 : decode cX7_kindBy 30 = .ok (.iload_n 0, 1) := by decide +kernel
theorem dX7_kindBy_31 : decode cX7_kindBy 31 = .ok (.bipush 116, 2) := by decide +kernel
theorem dX7_kindBy_33 : decode cX7_kindBy 33 = .ok (.if_icmp .ne 7, 3) := by decide +kernel
theorem dX7_kindBy_36 : decode cX7_kindBy 36 = .ok (.iconst 4, 1) := by decide +kernel
theorem dX7_kindBy_37 : decode cX7_kindBy 37 = .ok (.goto 15, 3) := by decide +kernel
theorem dX7_kindBy_40 : decode cX7_kindBy 40 = .ok (.iload_n 0, 1) := by decide +kernel
theorem dX7_kindBy_41 : decode cX7_kindBy 41 = .ok (.bipush 108, 2) := by decide +kernel
theorem dX7_kindBy_43 : decode cX7_kindBy 43 = .ok (.if_icmp .ne 7, 3) := by decide +kernel
theorem dX7_kindBy_46 : decode cX7_kindBy 46 = .ok (.iconst 5, 1) := by decide +kernel
theorem dX7_kindBy_47 : decode cX7_kindBy 47 = .ok (.goto 5, 3) := by decide +kernel
theorem dX7_kindBy_50 : decode cX7_kindBy 50 = .ok (.ldc 96, 2) := by decide +kernel
theorem dX7_kindBy_52 : decode cX7_kindBy 52 = .ok (.ireturn, 1) := by decide +kernel
theorem dX7_isSort_0 : decode cX7_isSort 0 = .ok (.aload_n 0, 1) := by decide +kernel
theorem dX7_isSort_1 : decode cX7_isSort 1 = .ok (.getfield 84, 3) := by decide +kernel
theorem dX7_isSort_4 : decode cX7_isSort 4 = .ok (.ifCond .ne 27, 3) := by decide +kernel
theorem dX7_isSort_7 : decode cX7_isSort 7 = .ok (.aload_n 0, 1) := by decide +kernel
theorem dX7_isSort_8 : decode cX7_isSort 8 = .ok (.getfield 108, 3) := by decide +kernel
theorem dX7_isSort_11 : decode cX7_isSort 11 = .ok (.iconst 2, 1) := by decide +kernel
theorem dX7_isSort_12 : decode cX7_isSort 12 = .ok (.if_icmp .ne 19, 3) := by decide +kernel
theorem dX7_isSort_15 : decode cX7_isSort 15 = .ok (.aload_n 0, 1) := by decide +kernel
theorem dX7_isSort_16 : decode cX7_isSort 16 = .ok (.getfield 97, 3) := by decide +kernel
theorem dX7_isSort_19 : decode cX7_isSort 19 = .ok (.invokestatic 125, 3) := by decide +kernel
theorem dX7_isSort_22 : decode cX7_isSort 22 = .ok (.ldc 96, 2) := by decide +kernel
theorem dX7_isSort_24 : decode cX7_isSort 24 = .ok (.if_icmp .eq 7, 3) := by decide +kernel
theorem dX7_isSort_27 : decode cX7_isSort 27 = .ok (.iconst 1, 1) := by decide +kernel
theorem dX7_isSort_28 : decode cX7_isSort 28 = .ok (.goto 4, 3) := by decide +kernel
theorem dX7_isSort_31 : decode cX7_isSort 31 = .ok (.iconst 0, 1) := by decide +kernel
theorem dX7_isSort_32 : decode cX7_isSort 32 = .ok (.ireturn, 1) := by decide +kernel
theorem dX7_readGrade_0 : decode cX7_readGrade 0 = .ok (.aload_n 0, 1) := by decide +kernel
theorem dX7_readGrade_1 : decode cX7_readGrade 1 = .ok (.getfield 97, 3) := by decide +kernel
theorem dX7_readGrade_4 : decode cX7_readGrade 4 = .ok (.invokestatic 125, 3) := by decide +kernel
theorem dX7_readGrade_7 : decode cX7_readGrade 7 = .ok (.istore_n 1, 1) := by decide +kernel
theorem dX7_readGrade_8 : decode cX7_readGrade 8 = .ok (.aload_n 0, 1) := by decide +kernel
theorem dX7_readGrade_9 : decode cX7_readGrade 9 = .ok (.getfield 22, 3) := by decide +kernel
theorem dX7_readGrade_12 : decode cX7_readGrade 12 = .ok (.iconst 5, 1) := by decide +kernel
theorem dX7_readGrade_13 : decode cX7_readGrade 13 = .ok (.iaload, 1) := by decide +kernel
theorem dX7_readGrade_14 : decode cX7_readGrade 14 = .ok (.iconst 5, 1) := by decide +kernel
theorem dX7_readGrade_15 : decode cX7_readGrade 15 = .ok (.if_icmp .ne 8, 3) := by decide +kernel
theorem dX7_readGrade_18 : decode cX7_readGrade 18 = .ok (.aload_n 0, 1) := by decide +kernel
theorem dX7_readGrade_19 : decode cX7_readGrade 19 = .ok (.iconst 3, 1) := by decide +kernel
theorem dX7_readGrade_20 : decode cX7_readGrade 20 = .ok (.invokevirtual 111, 3) := by decide +kernel
theorem dX7_readGrade_23 : decode cX7_readGrade 23 = .ok (.aload_n 0, 1) := by decide +kernel
theorem dX7_readGrade_24 : decode cX7_readGrade 24 = .ok (.iconst 1, 1) := by decide +kernel
theorem dX7_readGrade_25 : decode cX7_readGrade 25 = .ok (.invokevirtual 118, 3) := by decide +kernel
theorem dX7_readGrade_28 : decode cX7_readGrade 28 = .ok (.aload_n 0, 1) := by decide +kernel
theorem dX7_readGrade_29 : decode cX7_readGrade 29 = .ok (.iconst 1, 1) := by decide +kernel
theorem dX7_readGrade_30 : decode cX7_readGrade 30 = .ok (.bipush 99, 2) := by decide +kernel
theorem dX7_readGrade_32 : decode cX7_readGrade 32 = .ok (.invokevirtual 128, 3) := by decide +kernel
theorem dX7_readGrade_35 : decode cX7_readGrade 35 = .ok (.istore_n 2, 1) := by decide +kernel
theorem dX7_readGrade_36 : decode cX7_readGrade 36 = .ok (.aload_n 0, 1) := by decide +kernel
theorem dX7_readGrade_37 : decode cX7_readGrade 37 = .ok (.bipush 44, 2) := by decide +kernel
theorem dX7_readGrade_39 : decode cX7_readGrade 39 = .ok (.invokevirtual 132, 3) := by decide +kernel
theorem dX7_readGrade_42 : decode cX7_readGrade 42 = .ok (.aload_n 0, 1) := by decide +kernel
theorem dX7_readGrade_43 : decode cX7_readGrade 43 = .ok (.iconst 1, 1) := by decide +kernel
theorem dX7_readGrade_44 : decode cX7_readGrade 44 = .ok (.bipush 99, 2) := by decide +kernel
theorem dX7_readGrade_46 : decode cX7_readGrade 46 = .ok (.invokevirtual 128, 3) := by decide +kernel
theorem dX7_readGrade_49 : decode cX7_readGrade 49 = .ok (.istore_n 3, 1) := by decide +kernel
theorem dX7_readGrade_50 : decode cX7_readGrade 50 = .ok (.aload_n 0, 1) := by decide +kernel
theorem dX7_readGrade_51 : decode cX7_readGrade 51 = .ok (.bipush 44, 2) := by decide +kernel
theorem dX7_readGrade_53 : decode cX7_readGrade 53 = .ok (.invokevirtual 132, 3) := by decide +kernel
theorem dX7_readGrade_56 : decode cX7_readGrade 56 = .ok (.aload_n 0, 1) := by decide +kernel
theorem dX7_readGrade_57 : decode cX7_readGrade 57 = .ok (.iconst 1, 1) := by decide +kernel
theorem dX7_readGrade_58 : decode cX7_readGrade 58 = .ok (.bipush 99, 2) := by decide +kernel
theorem dX7_readGrade_60 : decode cX7_readGrade 60 = .ok (.invokevirtual 128, 3) := by decide +kernel
theorem dX7_readGrade_63 : decode cX7_readGrade 63 = .ok (.istore 4, 2) := by decide +kernel
theorem dX7_readGrade_65 : decode cX7_readGrade 65 = .ok (.aload_n 0, 1) := by decide +kernel
theorem dX7_readGrade_66 : decode cX7_readGrade 66 = .ok (.bipush 44, 2) := by decide +kernel
theorem dX7_readGrade_68 : decode cX7_readGrade 68 = .ok (.invokevirtual 132, 3) := by decide +kernel
theorem dX7_readGrade_71 : decode cX7_readGrade 71 = .ok (.aload_n 0, 1) := by decide +kernel
theorem dX7_readGrade_72 : decode cX7_readGrade 72 = .ok (.iconst 1, 1) := by decide +kernel
theorem dX7_readGrade_73 : decode cX7_readGrade 73 = .ok (.bipush 9, 2) := by decide +kernel
theorem dX7_readGrade_75 : decode cX7_readGrade 75 = .ok (.invokevirtual 128, 3) := by decide +kernel
theorem dX7_readGrade_78 : decode cX7_readGrade 78 = .ok (.istore 5, 2) := by decide +kernel
theorem dX7_readGrade_80 : decode cX7_readGrade 80 = .ok (.aload_n 0, 1) := by decide +kernel
theorem dX7_readGrade_81 : decode cX7_readGrade 81 = .ok (.bipush 44, 2) := by decide +kernel
theorem dX7_readGrade_83 : decode cX7_readGrade 83 = .ok (.invokevirtual 132, 3) := by decide +kernel
theorem dX7_readGrade_86 : decode cX7_readGrade 86 = .ok (.aload_n 0, 1) := by decide +kernel
theorem dX7_readGrade_87 : decode cX7_readGrade 87 = .ok (.iconst 1, 1) := by decide +kernel
theorem dX7_readGrade_88 : decode cX7_readGrade 88 = .ok (.bipush 99, 2) := by decide +kernel
theorem dX7_readGrade_90 : decode cX7_readGrade 90 = .ok (.invokevirtual 128, 3) := by decide +kernel
theorem dX7_readGrade_93 : decode cX7_readGrade 93 = .ok (.istore 6, 2) := by decide +kernel
theorem dX7_readGrade_95 : decode cX7_readGrade 95 = .ok (.aload_n 0, 1) := by decide +kernel
theorem dX7_readGrade_96 : decode cX7_readGrade 96 = .ok (.bipush 59, 2) := by decide +kernel
theorem dX7_readGrade_98 : decode cX7_readGrade 98 = .ok (.invokevirtual 132, 3) := by decide +kernel
theorem dX7_readGrade_101 : decode cX7_readGrade 101 = .ok (.aload_n 0, 1) := by decide +kernel
theorem dX7_readGrade_102 : decode cX7_readGrade 102 = .ok (.getfield 84, 3) := by decide +kernel
theorem dX7_readGrade_105 : decode cX7_readGrade 105 = .ok (.ifCond .ne 90, 3) := by decide +kernel
theorem dX7_readGrade_108 : decode cX7_readGrade 108 = .ok (.bipush 6, 2) := by decide +kernel
theorem dX7_readGrade_110 : decode cX7_readGrade 110 = .ok (.bipush 6, 2) := by decide +kernel
theorem dX7_readGrade_112 : decode cX7_readGrade 112 = .ok (.aload_n 0, 1) := by decide +kernel
theorem dX7_readGrade_113 : decode cX7_readGrade 113 = .ok (.getfield 22, 3) := by decide +kernel
theorem dX7_readGrade_116 : decode cX7_readGrade 116 = .ok (.iconst 5, 1) := by decide +kernel
theorem dX7_readGrade_117 : decode cX7_readGrade 117 = .ok (.iaload, 1) := by decide +kernel
theorem dX7_readGrade_118 : decode cX7_readGrade 118 = .ok (.imul, 1) := by decide +kernel
theorem dX7_readGrade_119 : decode cX7_readGrade 119 = .ok (.iadd, 1) := by decide +kernel
theorem dX7_readGrade_120 : decode cX7_readGrade 120 = .ok (.istore 7, 2) := by decide +kernel
theorem dX7_readGrade_122 : decode cX7_readGrade 122 = .ok (.aload_n 0, 1) := by decide +kernel
theorem dX7_readGrade_123 : decode cX7_readGrade 123 = .ok (.getfield 22, 3) := by decide +kernel
theorem dX7_readGrade_126 : decode cX7_readGrade 126 = .ok (.iload 7, 2) := by decide +kernel
theorem dX7_readGrade_128 : decode cX7_readGrade 128 = .ok (.iconst 0, 1) := by decide +kernel
theorem dX7_readGrade_129 : decode cX7_readGrade 129 = .ok (.iadd, 1) := by decide +kernel
theorem dX7_readGrade_130 : decode cX7_readGrade 130 = .ok (.iload_n 1, 1) := by decide +kernel
theorem dX7_readGrade_131 : decode cX7_readGrade 131 = .ok (.iastore, 1) := by decide +kernel
theorem dX7_readGrade_132 : decode cX7_readGrade 132 = .ok (.aload_n 0, 1) := by decide +kernel
theorem dX7_readGrade_133 : decode cX7_readGrade 133 = .ok (.getfield 22, 3) := by decide +kernel
theorem dX7_readGrade_136 : decode cX7_readGrade 136 = .ok (.iload 7, 2) := by decide +kernel
theorem dX7_readGrade_138 : decode cX7_readGrade 138 = .ok (.iconst 1, 1) := by decide +kernel
theorem dX7_readGrade_139 : decode cX7_readGrade 139 = .ok (.iadd, 1) := by decide +kernel
theorem dX7_readGrade_140 : decode cX7_readGrade 140 = .ok (.iload_n 2, 1) := by decide +kernel
theorem dX7_readGrade_141 : decode cX7_readGrade 141 = .ok (.iastore, 1) := by decide +kernel
theorem dX7_readGrade_142 : decode cX7_readGrade 142 = .ok (.aload_n 0, 1) := by decide +kernel
theorem dX7_readGrade_143 : decode cX7_readGrade 143 = .ok (.getfield 22, 3) := by decide +kernel
theorem dX7_readGrade_146 : decode cX7_readGrade 146 = .ok (.iload 7, 2) := by decide +kernel
theorem dX7_readGrade_148 : decode cX7_readGrade 148 = .ok (.iconst 2, 1) := by decide +kernel
theorem dX7_readGrade_149 : decode cX7_readGrade 149 = .ok (.iadd, 1) := by decide +kernel
theorem dX7_readGrade_150 : decode cX7_readGrade 150 = .ok (.iload_n 3, 1) := by decide +kernel
theorem dX7_readGrade_151 : decode cX7_readGrade 151 = .ok (.iastore, 1) := by decide +kernel
theorem dX7_readGrade_152 : decode cX7_readGrade 152 = .ok (.aload_n 0, 1) := by decide +kernel
theorem dX7_readGrade_153 : decode cX7_readGrade 153 = .ok (.getfield 22, 3) := by decide +kernel
theorem dX7_readGrade_156 : decode cX7_readGrade 156 = .ok (.iload 7, 2) := by decide +kernel
theorem dX7_readGrade_158 : decode cX7_readGrade 158 = .ok (.iconst 3, 1) := by decide +kernel
theorem dX7_readGrade_159 : decode cX7_readGrade 159 = .ok (.iadd, 1) := by decide +kernel
theorem dX7_readGrade_160 : decode cX7_readGrade 160 = .ok (.iload 4, 2) := by decide +kernel
theorem dX7_readGrade_162 : decode cX7_readGrade 162 = .ok (.iastore, 1) := by decide +kernel
theorem dX7_readGrade_163 : decode cX7_readGrade 163 = .ok (.aload_n 0, 1) := by decide +kernel
theorem dX7_readGrade_164 : decode cX7_readGrade 164 = .ok (.getfield 22, 3) := by decide +kernel
theorem dX7_readGrade_167 : decode cX7_readGrade 167 = .ok (.iload 7, 2) := by decide +kernel
theorem dX7_readGrade_169 : decode cX7_readGrade 169 = .ok (.iconst 4, 1) := by decide +kernel
theorem dX7_readGrade_170 : decode cX7_readGrade 170 = .ok (.iadd, 1) := by decide +kernel
theorem dX7_readGrade_171 : decode cX7_readGrade 171 = .ok (.iload 5, 2) := by decide +kernel
theorem dX7_readGrade_173 : decode cX7_readGrade 173 = .ok (.iastore, 1) := by decide +kernel
theorem dX7_readGrade_174 : decode cX7_readGrade 174 = .ok (.aload_n 0, 1) := by decide +kernel
theorem dX7_readGrade_175 : decode cX7_readGrade 175 = .ok (.getfield 22, 3) := by decide +kernel
theorem dX7_readGrade_178 : decode cX7_readGrade 178 = .ok (.iload 7, 2) := by decide +kernel
theorem dX7_readGrade_180 : decode cX7_readGrade 180 = .ok (.iconst 5, 1) := by decide +kernel
theorem dX7_readGrade_181 : decode cX7_readGrade 181 = .ok (.iadd, 1) := by decide +kernel
theorem dX7_readGrade_182 : decode cX7_readGrade 182 = .ok (.iload 6, 2) := by decide +kernel
theorem dX7_readGrade_184 : decode cX7_readGrade 184 = .ok (.iastore, 1) := by decide +kernel
theorem dX7_readGrade_185 : decode cX7_readGrade 185 = .ok (.aload_n 0, 1) := by decide +kernel
theorem dX7_readGrade_186 : decode cX7_readGrade 186 = .ok (.getfield 22, 3) := by decide +kernel
theorem dX7_readGrade_189 : decode cX7_readGrade 189 = .ok (.iconst 5, 1) := by decide +kernel
theorem dX7_readGrade_190 : decode cX7_readGrade 190 = .ok (.dup2, 1) := by decide +kernel
theorem dX7_readGrade_191 : decode cX7_readGrade 191 = .ok (.iaload, 1) := by decide +kernel
theorem dX7_readGrade_192 : decode cX7_readGrade 192 = .ok (.iconst 1, 1) := by decide +kernel
theorem dX7_readGrade_193 : decode cX7_readGrade 193 = .ok (.iadd, 1) := by decide +kernel
theorem dX7_readGrade_194 : decode cX7_readGrade 194 = .ok (.iastore, 1) := by decide +kernel
theorem dX7_readGrade_195 : decode cX7_readGrade 195 = .ok (.return_, 1) := by decide +kernel
theorem dX7_well_0 : decode cX7_well 0 = .ok (.aload_n 0, 1) := by decide +kernel
theorem dX7_well_1 : decode cX7_well 1 = .ok (.iconst 0, 1) := by decide +kernel
theorem dX7_well_2 : decode cX7_well 2 = .ok (.putfield 53, 3) := by decide +kernel
theorem dX7_well_5 : decode cX7_well 5 = .ok (.aload_n 0, 1) := by decide +kernel
theorem dX7_well_6 : decode cX7_well 6 = .ok (.invokevirtual 135, 3) := by decide +kernel
theorem dX7_well_9 : decode cX7_well 9 = .ok (.iconst 0, 1) := by decide +kernel
theorem dX7_well_10 : decode cX7_well 10 = .ok (.istore_n 1, 1) := by decide +kernel
theorem dX7_well_11 : decode cX7_well 11 = .ok (.iload_n 1, 1) := by decide +kernel
theorem dX7_well_12 : decode cX7_well 12 = .ok (.bipush 44, 2) := by decide +kernel
theorem dX7_well_14 : decode cX7_well 14 = .ok (.if_icmp .ge 26, 3) := by decide +kernel
theorem dX7_well_17 : decode cX7_well 17 = .ok (.aload_n 0, 1) := by decide +kernel
theorem dX7_well_18 : decode cX7_well 18 = .ok (.getfield 22, 3) := by decide +kernel
theorem dX7_well_21 : decode cX7_well 21 = .ok (.iload_n 1, 1) := by decide +kernel
theorem dX7_well_22 : decode cX7_well 22 = .ok (.iload_n 1, 1) := by decide +kernel
theorem dX7_well_23 : decode cX7_well 23 = .ok (.bipush 36, 2) := by decide +kernel
theorem dX7_well_25 : decode cX7_well 25 = .ok (.if_icmp .lt 7, 3) := by decide +kernel
theorem dX7_well_28 : decode cX7_well 28 = .ok (.iconst (-1), 1) := by decide +kernel
theorem dX7_well_29 : decode cX7_well 29 = .ok (.goto 4, 3) := by decide +kernel
theorem dX7_well_32 : decode cX7_well 32 = .ok (.iconst 0, 1) := by decide +kernel
theorem dX7_well_33 : decode cX7_well 33 = .ok (.iastore, 1) := by decide +kernel
theorem dX7_well_34 : decode cX7_well 34 = .ok (.iinc 1 1, 3) := by decide +kernel
theorem dX7_well_37 : decode cX7_well 37 = .ok (.goto (-26), 3) := by decide +kernel
theorem dX7_well_40 : decode cX7_well 40 = .ok (.aload_n 0, 1) := by decide +kernel
theorem dX7_well_41 : decode cX7_well 41 = .ok (.aload_n 0, 1) := by decide +kernel
theorem dX7_well_42 : decode cX7_well 42 = .ok (.bipush 119, 2) := by decide +kernel
theorem dX7_well_44 : decode cX7_well 44 = .ok (.invokevirtual 138, 3) := by decide +kernel
theorem dX7_well_47 : decode cX7_well 47 = .ok (.invokevirtual 118, 3) := by decide +kernel
theorem dX7_well_50 : decode cX7_well 50 = .ok (.aload_n 0, 1) := by decide +kernel
theorem dX7_well_51 : decode cX7_well 51 = .ok (.getfield 22, 3) := by decide +kernel
theorem dX7_well_54 : decode cX7_well 54 = .ok (.iconst 0, 1) := by decide +kernel
theorem dX7_well_55 : decode cX7_well 55 = .ok (.aload_n 0, 1) := by decide +kernel
theorem dX7_well_56 : decode cX7_well 56 = .ok (.iconst 2, 1) := by decide +kernel
theorem dX7_well_57 : decode cX7_well 57 = .ok (.bipush 8, 2) := by decide +kernel
theorem dX7_well_59 : decode cX7_well 59 = .ok (.invokevirtual 128, 3) := by decide +kernel
theorem dX7_well_62 : decode cX7_well 62 = .ok (.iastore, 1) := by decide +kernel
theorem dX7_well_63 : decode cX7_well 63 = .ok (.aload_n 0, 1) := by decide +kernel
theorem dX7_well_64 : decode cX7_well 64 = .ok (.bipush 44, 2) := by decide +kernel
theorem dX7_well_66 : decode cX7_well 66 = .ok (.invokevirtual 132, 3) := by decide +kernel
theorem dX7_well_69 : decode cX7_well 69 = .ok (.aload_n 0, 1) := by decide +kernel
theorem dX7_well_70 : decode cX7_well 70 = .ok (.getfield 22, 3) := by decide +kernel
theorem dX7_well_73 : decode cX7_well 73 = .ok (.iconst 1, 1) := by decide +kernel
theorem dX7_well_74 : decode cX7_well 74 = .ok (.aload_n 0, 1) := by decide +kernel
theorem dX7_well_75 : decode cX7_well 75 = .ok (.iconst 1, 1) := by decide +kernel
theorem dX7_well_76 : decode cX7_well 76 = .ok (.iconst 3, 1) := by decide +kernel
theorem dX7_well_77 : decode cX7_well 77 = .ok (.invokevirtual 128, 3) := by decide +kernel
theorem dX7_well_80 : decode cX7_well 80 = .ok (.iastore, 1) := by decide +kernel
theorem dX7_well_81 : decode cX7_well 81 = .ok (.aload_n 0, 1) := by decide +kernel
theorem dX7_well_82 : decode cX7_well 82 = .ok (.bipush 44, 2) := by decide +kernel
theorem dX7_well_84 : decode cX7_well 84 = .ok (.invokevirtual 132, 3) := by decide +kernel
theorem dX7_well_87 : decode cX7_well 87 = .ok (.aload_n 0, 1) := by decide +kernel
theorem dX7_well_88 : decode cX7_well 88 = .ok (.getfield 22, 3) := by decide +kernel
theorem dX7_well_91 : decode cX7_well 91 = .ok (.iconst 2, 1) := by decide +kernel
theorem dX7_well_92 : decode cX7_well 92 = .ok (.aload_n 0, 1) := by decide +kernel
theorem dX7_well_93 : decode cX7_well 93 = .ok (.iconst 0, 1) := by decide +kernel
theorem dX7_well_94 : decode cX7_well 94 = .ok (.bipush 20, 2) := by decide +kernel
theorem dX7_well_96 : decode cX7_well 96 = .ok (.invokevirtual 128, 3) := by decide +kernel
theorem dX7_well_99 : decode cX7_well 99 = .ok (.iastore, 1) := by decide +kernel
theorem dX7_well_100 : decode cX7_well 100 = .ok (.aload_n 0, 1) := by decide +kernel
theorem dX7_well_101 : decode cX7_well 101 = .ok (.bipush 59, 2) := by decide +kernel
theorem dX7_well_103 : decode cX7_well 103 = .ok (.invokevirtual 132, 3) := by decide +kernel
theorem dX7_well_106 : decode cX7_well 106 = .ok (.aload_n 0, 1) := by decide +kernel
theorem dX7_well_107 : decode cX7_well 107 = .ok (.aload_n 0, 1) := by decide +kernel
theorem dX7_well_108 : decode cX7_well 108 = .ok (.bipush 103, 2) := by decide +kernel
theorem dX7_well_110 : decode cX7_well 110 = .ok (.invokevirtual 138, 3) := by decide +kernel
theorem dX7_well_113 : decode cX7_well 113 = .ok (.invokevirtual 118, 3) := by decide +kernel
theorem dX7_well_116 : decode cX7_well 116 = .ok (.aload_n 0, 1) := by decide +kernel
theorem dX7_well_117 : decode cX7_well 117 = .ok (.getfield 22, 3) := by decide +kernel
theorem dX7_well_120 : decode cX7_well 120 = .ok (.iconst 3, 1) := by decide +kernel
theorem dX7_well_121 : decode cX7_well 121 = .ok (.aload_n 0, 1) := by decide +kernel
theorem dX7_well_122 : decode cX7_well 122 = .ok (.iconst 0, 1) := by decide +kernel
theorem dX7_well_123 : decode cX7_well 123 = .ok (.bipush 99, 2) := by decide +kernel
theorem dX7_well_125 : decode cX7_well 125 = .ok (.invokevirtual 128, 3) := by decide +kernel
theorem dX7_well_128 : decode cX7_well 128 = .ok (.iastore, 1) := by decide +kernel
theorem dX7_well_129 : decode cX7_well 129 = .ok (.aload_n 0, 1) := by decide +kernel
theorem dX7_well_130 : decode cX7_well 130 = .ok (.bipush 44, 2) := by decide +kernel
theorem dX7_well_132 : decode cX7_well 132 = .ok (.invokevirtual 132, 3) := by decide +kernel
theorem dX7_well_135 : decode cX7_well 135 = .ok (.aload_n 0, 1) := by decide +kernel
theorem dX7_well_136 : decode cX7_well 136 = .ok (.getfield 22, 3) := by decide +kernel
theorem dX7_well_139 : decode cX7_well 139 = .ok (.iconst 4, 1) := by decide +kernel
theorem dX7_well_140 : decode cX7_well 140 = .ok (.aload_n 0, 1) := by decide +kernel
theorem dX7_well_141 : decode cX7_well 141 = .ok (.iconst 0, 1) := by decide +kernel
theorem dX7_well_142 : decode cX7_well 142 = .ok (.bipush 20, 2) := by decide +kernel
theorem dX7_well_144 : decode cX7_well 144 = .ok (.invokevirtual 128, 3) := by decide +kernel
theorem dX7_well_147 : decode cX7_well 147 = .ok (.iastore, 1) := by decide +kernel
theorem dX7_well_148 : decode cX7_well 148 = .ok (.aload_n 0, 1) := by decide +kernel
theorem dX7_well_149 : decode cX7_well 149 = .ok (.bipush 59, 2) := by decide +kernel
theorem dX7_well_151 : decode cX7_well 151 = .ok (.invokevirtual 132, 3) := by decide +kernel
theorem dX7_well_154 : decode cX7_well 154 = .ok (.aload_n 0, 1) := by decide +kernel
theorem dX7_well_155 : decode cX7_well 155 = .ok (.invokevirtual 141, 3) := by decide +kernel
theorem dX7_well_158 : decode cX7_well 158 = .ok (.ifCond .ne 8, 3) := by decide +kernel
theorem dX7_well_161 : decode cX7_well 161 = .ok (.aload_n 0, 1) := by decide +kernel
theorem dX7_well_162 : decode cX7_well 162 = .ok (.iconst 1, 1) := by decide +kernel
theorem dX7_well_163 : decode cX7_well 163 = .ok (.invokevirtual 111, 3) := by decide +kernel
theorem dX7_well_166 : decode cX7_well 166 = .ok (.aload_n 0, 1) := by decide +kernel
theorem dX7_well_167 : decode cX7_well 167 = .ok (.invokevirtual 141, 3) := by decide +kernel
theorem dX7_well_170 : decode cX7_well 170 = .ok (.ifCond .eq 10, 3) := by decide +kernel
theorem dX7_well_173 : decode cX7_well 173 = .ok (.aload_n 0, 1) := by decide +kernel
theorem dX7_well_174 : decode cX7_well 174 = .ok (.invokevirtual 145, 3) := by decide +kernel
theorem dX7_well_177 : decode cX7_well 177 = .ok (.goto (-11), 3) := by decide +kernel
theorem dX7_well_180 : decode cX7_well 180 = .ok (.aload_n 0, 1) := by decide +kernel
theorem dX7_well_181 : decode cX7_well 181 = .ok (.invokevirtual 148, 3) := by decide +kernel
theorem dX7_well_184 : decode cX7_well 184 = .ok (.ifCond .eq 11, 3) := by decide +kernel
theorem dX7_well_187 : decode cX7_well 187 = .ok (.ldc 151, 2) := by decide +kernel
theorem dX7_well_189 : decode cX7_well 189 = .ok (.aload_n 0, 1) := by decide +kernel
theorem dX7_well_190 : decode cX7_well 190 = .ok (.getfield 90, 3) := by decide +kernel
theorem dX7_well_193 : decode cX7_well 193 = .ok (.isub, 1) := by decide +kernel
theorem dX7_well_194 : decode cX7_well 194 = .ok (.ireturn, 1) := by decide +kernel
theorem dX7_well_195 : decode cX7_well 195 = .ok (.aload_n 0, 1) := by decide +kernel
theorem dX7_well_196 : decode cX7_well 196 = .ok (.iconst 0, 1) := by decide +kernel
theorem dX7_well_197 : decode cX7_well 197 = .ok (.putfield 152, 3) := by decide +kernel
theorem dX7_well_200 : decode cX7_well 200 = .ok (.iconst 0, 1) := by decide +kernel
theorem dX7_well_201 : decode cX7_well 201 = .ok (.istore_n 1, 1) := by decide +kernel
theorem dX7_well_202 : decode cX7_well 202 = .ok (.iload_n 1, 1) := by decide +kernel
theorem dX7_well_203 : decode cX7_well 203 = .ok (.bipush 44, 2) := by decide +kernel
theorem dX7_well_205 : decode cX7_well 205 = .ok (.if_icmp .ge 21, 3) := by decide +kernel
theorem dX7_well_208 : decode cX7_well 208 = .ok (.aload_n 0, 1) := by decide +kernel
theorem dX7_well_209 : decode cX7_well 209 = .ok (.getfield 19, 3) := by decide +kernel
theorem dX7_well_212 : decode cX7_well 212 = .ok (.iload_n 1, 1) := by decide +kernel
theorem dX7_well_213 : decode cX7_well 213 = .ok (.aload_n 0, 1) := by decide +kernel
theorem dX7_well_214 : decode cX7_well 214 = .ok (.getfield 22, 3) := by decide +kernel
theorem dX7_well_217 : decode cX7_well 217 = .ok (.iload_n 1, 1) := by decide +kernel
theorem dX7_well_218 : decode cX7_well 218 = .ok (.iaload, 1) := by decide +kernel
theorem dX7_well_219 : decode cX7_well 219 = .ok (.iastore, 1) := by decide +kernel
theorem dX7_well_220 : decode cX7_well 220 = .ok (.iinc 1 1, 3) := by decide +kernel
theorem dX7_well_223 : decode cX7_well 223 = .ok (.goto (-21), 3) := by decide +kernel
theorem dX7_well_226 : decode cX7_well 226 = .ok (.aload_n 0, 1) := by decide +kernel
theorem dX7_well_227 : decode cX7_well 227 = .ok (.getfield 19, 3) := by decide +kernel
theorem dX7_well_230 : decode cX7_well 230 = .ok (.iconst 5, 1) := by decide +kernel
theorem dX7_well_231 : decode cX7_well 231 = .ok (.iaload, 1) := by decide +kernel
theorem dX7_well_232 : decode cX7_well 232 = .ok (.ireturn, 1) := by decide +kernel
theorem dX7_isThere_0 : decode cX7_isThere 0 = .ok (.aload_n 0, 1) := by decide +kernel
theorem dX7_isThere_1 : decode cX7_isThere 1 = .ok (.getfield 19, 3) := by decide +kernel
theorem dX7_isThere_4 : decode cX7_isThere 4 = .ok (.iconst 0, 1) := by decide +kernel
theorem dX7_isThere_5 : decode cX7_isThere 5 = .ok (.iaload, 1) := by decide +kernel
theorem dX7_isThere_6 : decode cX7_isThere 6 = .ok (.ifCond .le 7, 3) := by decide +kernel
theorem dX7_isThere_9 : decode cX7_isThere 9 = .ok (.iconst 1, 1) := by decide +kernel
theorem dX7_isThere_10 : decode cX7_isThere 10 = .ok (.goto 4, 3) := by decide +kernel
theorem dX7_isThere_13 : decode cX7_isThere 13 = .ok (.iconst 0, 1) := by decide +kernel
theorem dX7_isThere_14 : decode cX7_isThere 14 = .ok (.ireturn, 1) := by decide +kernel
theorem dX7_isStep_0 : decode cX7_isStep 0 = .ok (.iload_n 1, 1) := by decide +kernel
theorem dX7_isStep_1 : decode cX7_isStep 1 = .ok (.i2l, 1) := by decide +kernel
theorem dX7_isStep_2 : decode cX7_isStep 2 = .ok (.lconst 0, 1) := by decide +kernel
theorem dX7_isStep_3 : decode cX7_isStep 3 = .ok (.aload_n 0, 1) := by decide +kernel
theorem dX7_isStep_4 : decode cX7_isStep 4 = .ok (.getfield 19, 3) := by decide +kernel
theorem dX7_isStep_7 : decode cX7_isStep 7 = .ok (.iconst 0, 1) := by decide +kernel
theorem dX7_isStep_8 : decode cX7_isStep 8 = .ok (.iaload, 1) := by decide +kernel
theorem dX7_isStep_9 : decode cX7_isStep 9 = .ok (.iconst 1, 1) := by decide +kernel
theorem dX7_isStep_10 : decode cX7_isStep 10 = .ok (.isub, 1) := by decide +kernel
theorem dX7_isStep_11 : decode cX7_isStep 11 = .ok (.i2l, 1) := by decide +kernel
theorem dX7_isStep_12 : decode cX7_isStep 12 = .ok (.invokestatic 63, 3) := by decide +kernel
theorem dX7_isStep_15 : decode cX7_isStep 15 = .ok (.ireturn, 1) := by decide +kernel
theorem dX7_isGrade_0 : decode cX7_isGrade 0 = .ok (.iload_n 1, 1) := by decide +kernel
theorem dX7_isGrade_1 : decode cX7_isGrade 1 = .ok (.i2l, 1) := by decide +kernel
theorem dX7_isGrade_2 : decode cX7_isGrade 2 = .ok (.lconst 0, 1) := by decide +kernel
theorem dX7_isGrade_3 : decode cX7_isGrade 3 = .ok (.aload_n 0, 1) := by decide +kernel
theorem dX7_isGrade_4 : decode cX7_isGrade 4 = .ok (.getfield 19, 3) := by decide +kernel
theorem dX7_isGrade_7 : decode cX7_isGrade 7 = .ok (.iconst 5, 1) := by decide +kernel
theorem dX7_isGrade_8 : decode cX7_isGrade 8 = .ok (.iaload, 1) := by decide +kernel
theorem dX7_isGrade_9 : decode cX7_isGrade 9 = .ok (.iconst 1, 1) := by decide +kernel
theorem dX7_isGrade_10 : decode cX7_isGrade 10 = .ok (.isub, 1) := by decide +kernel
theorem dX7_isGrade_11 : decode cX7_isGrade 11 = .ok (.i2l, 1) := by decide +kernel
theorem dX7_isGrade_12 : decode cX7_isGrade 12 = .ok (.invokestatic 63, 3) := by decide +kernel
theorem dX7_isGrade_15 : decode cX7_isGrade 15 = .ok (.ireturn, 1) := by decide +kernel
theorem dX7_has_0 : decode cX7_has 0 = .ok (.iload_n 0, 1) := by decide +kernel
theorem dX7_has_1 : decode cX7_has 1 = .ok (.iload_n 1, 1) := by decide +kernel
theorem dX7_has_2 : decode cX7_has 2 = .ok (.ishr, 1) := by decide +kernel
theorem dX7_has_3 : decode cX7_has 3 = .ok (.iconst 1, 1) := by decide +kernel
theorem dX7_has_4 : decode cX7_has 4 = .ok (.iand, 1) := by decide +kernel
theorem dX7_has_5 : decode cX7_has 5 = .ok (.iconst 1, 1) := by decide +kernel
theorem dX7_has_6 : decode cX7_has 6 = .ok (.if_icmp .ne 7, 3) := by decide +kernel
theorem dX7_has_9 : decode cX7_has 9 = .ok (.iconst 1, 1) := by decide +kernel
theorem dX7_has_10 : decode cX7_has 10 = .ok (.goto 4, 3) := by decide +kernel
theorem dX7_has_13 : decode cX7_has 13 = .ok (.iconst 0, 1) := by decide +kernel
theorem dX7_has_14 : decode cX7_has 14 = .ok (.ireturn, 1) := by decide +kernel
theorem dX7_of_0 : decode cX7_of 0 = .ok (.aload_n 0, 1) := by decide +kernel
theorem dX7_of_1 : decode cX7_of 1 = .ok (.bipush 6, 2) := by decide +kernel
theorem dX7_of_3 : decode cX7_of 3 = .ok (.bipush 6, 2) := by decide +kernel
theorem dX7_of_5 : decode cX7_of 5 = .ok (.iload_n 1, 1) := by decide +kernel
theorem dX7_of_6 : decode cX7_of 6 = .ok (.imul, 1) := by decide +kernel
theorem dX7_of_7 : decode cX7_of 7 = .ok (.iadd, 1) := by decide +kernel
theorem dX7_of_8 : decode cX7_of 8 = .ok (.iload_n 2, 1) := by decide +kernel
theorem dX7_of_9 : decode cX7_of 9 = .ok (.iadd, 1) := by decide +kernel
theorem dX7_of_10 : decode cX7_of 10 = .ok (.iaload, 1) := by decide +kernel
theorem dX7_of_11 : decode cX7_of 11 = .ok (.ireturn, 1) := by decide +kernel
theorem dX7_burstLoad_0 : decode cX7_burstLoad 0 = .ok (.aload_n 0, 1) := by decide +kernel
theorem dX7_burstLoad_1 : decode cX7_burstLoad 1 = .ok (.iconst 3, 1) := by decide +kernel
theorem dX7_burstLoad_2 : decode cX7_burstLoad 2 = .ok (.iaload, 1) := by decide +kernel
theorem dX7_burstLoad_3 : decode cX7_burstLoad 3 = .ok (.aload_n 0, 1) := by decide +kernel
theorem dX7_burstLoad_4 : decode cX7_burstLoad 4 = .ok (.iconst 4, 1) := by decide +kernel
theorem dX7_burstLoad_5 : decode cX7_burstLoad 5 = .ok (.iaload, 1) := by decide +kernel
theorem dX7_burstLoad_6 : decode cX7_burstLoad 6 = .ok (.iload_n 1, 1) := by decide +kernel
theorem dX7_burstLoad_7 : decode cX7_burstLoad 7 = .ok (.imul, 1) := by decide +kernel
theorem dX7_burstLoad_8 : decode cX7_burstLoad 8 = .ok (.isub, 1) := by decide +kernel
theorem dX7_burstLoad_9 : decode cX7_burstLoad 9 = .ok (.istore_n 2, 1) := by decide +kernel
theorem dX7_burstLoad_10 : decode cX7_burstLoad 10 = .ok (.iload_n 2, 1) := by decide +kernel
theorem dX7_burstLoad_11 : decode cX7_burstLoad 11 = .ok (.ifCond .ge 7, 3) := by decide +kernel
theorem dX7_burstLoad_14 : decode cX7_burstLoad 14 = .ok (.iconst 0, 1) := by decide +kernel
theorem dX7_burstLoad_15 : decode cX7_burstLoad 15 = .ok (.goto 4, 3) := by decide +kernel
theorem dX7_burstLoad_18 : decode cX7_burstLoad 18 = .ok (.iload_n 2, 1) := by decide +kernel
theorem dX7_burstLoad_19 : decode cX7_burstLoad 19 = .ok (.ireturn, 1) := by decide +kernel
theorem dX7_crushLoad_0 : decode cX7_crushLoad 0 = .ok (.aload_n 0, 1) := by decide +kernel
theorem dX7_crushLoad_1 : decode cX7_crushLoad 1 = .ok (.iconst 2, 1) := by decide +kernel
theorem dX7_crushLoad_2 : decode cX7_crushLoad 2 = .ok (.iaload, 1) := by decide +kernel
theorem dX7_crushLoad_3 : decode cX7_crushLoad 3 = .ok (.iload_n 1, 1) := by decide +kernel
theorem dX7_crushLoad_4 : decode cX7_crushLoad 4 = .ok (.iconst 1, 1) := by decide +kernel
theorem dX7_crushLoad_5 : decode cX7_crushLoad 5 = .ok (.iadd, 1) := by decide +kernel
theorem dX7_crushLoad_6 : decode cX7_crushLoad 6 = .ok (.imul, 1) := by decide +kernel
theorem dX7_crushLoad_7 : decode cX7_crushLoad 7 = .ok (.ireturn, 1) := by decide +kernel
theorem dX7_hangs_0 : decode cX7_hangs 0 = .ok (.iconst 0, 1) := by decide +kernel
theorem dX7_hangs_1 : decode cX7_hangs 1 = .ok (.istore_n 2, 1) := by decide +kernel
theorem dX7_hangs_2 : decode cX7_hangs 2 = .ok (.iload_n 1, 1) := by decide +kernel
theorem dX7_hangs_3 : decode cX7_hangs 3 = .ok (.istore_n 3, 1) := by decide +kernel
theorem dX7_hangs_4 : decode cX7_hangs 4 = .ok (.iload_n 3, 1) := by decide +kernel
theorem dX7_hangs_5 : decode cX7_hangs 5 = .ok (.aload_n 0, 1) := by decide +kernel
theorem dX7_hangs_6 : decode cX7_hangs 6 = .ok (.iconst 0, 1) := by decide +kernel
theorem dX7_hangs_7 : decode cX7_hangs 7 = .ok (.iaload, 1) := by decide +kernel
theorem dX7_hangs_8 : decode cX7_hangs 8 = .ok (.if_icmp .ge 36, 3) := by decide +kernel
theorem dX7_hangs_11 : decode cX7_hangs 11 = .ok (.iload_n 2, 1) := by decide +kernel
theorem dX7_hangs_12 : decode cX7_hangs 12 = .ok (.aload_n 0, 1) := by decide +kernel
theorem dX7_hangs_13 : decode cX7_hangs 13 = .ok (.bipush 36, 2) := by decide +kernel
theorem dX7_hangs_15 : decode cX7_hangs 15 = .ok (.iload_n 3, 1) := by decide +kernel
theorem dX7_hangs_16 : decode cX7_hangs 16 = .ok (.iadd, 1) := by decide +kernel
theorem dX7_hangs_17 : decode cX7_hangs 17 = .ok (.iaload, 1) := by decide +kernel
theorem dX7_hangs_18 : decode cX7_hangs 18 = .ok (.ifCond .ge 7, 3) := by decide +kernel
theorem dX7_hangs_21 : decode cX7_hangs 21 = .ok (.iconst 0, 1) := by decide +kernel
theorem dX7_hangs_22 : decode cX7_hangs 22 = .ok (.goto 14, 3) := by decide +kernel
theorem dX7_hangs_25 : decode cX7_hangs 25 = .ok (.aload_n 0, 1) := by decide +kernel
theorem dX7_hangs_26 : decode cX7_hangs 26 = .ok (.aload_n 0, 1) := by decide +kernel
theorem dX7_hangs_27 : decode cX7_hangs 27 = .ok (.bipush 36, 2) := by decide +kernel
theorem dX7_hangs_29 : decode cX7_hangs 29 = .ok (.iload_n 3, 1) := by decide +kernel
theorem dX7_hangs_30 : decode cX7_hangs 30 = .ok (.iadd, 1) := by decide +kernel
theorem dX7_hangs_31 : decode cX7_hangs 31 = .ok (.iaload, 1) := by decide +kernel
theorem dX7_hangs_32 : decode cX7_hangs 32 = .ok (.iconst 4, 1) := by decide +kernel
theorem dX7_hangs_33 : decode cX7_hangs 33 = .ok (.invokestatic 155, 3) := by decide +kernel
theorem dX7_hangs_36 : decode cX7_hangs 36 = .ok (.iadd, 1) := by decide +kernel
theorem dX7_hangs_37 : decode cX7_hangs 37 = .ok (.istore_n 2, 1) := by decide +kernel
theorem dX7_hangs_38 : decode cX7_hangs 38 = .ok (.iinc 3 1, 3) := by decide +kernel
theorem dX7_hangs_41 : decode cX7_hangs 41 = .ok (.goto (-37), 3) := by decide +kernel
theorem dX7_hangs_44 : decode cX7_hangs 44 = .ok (.iload_n 2, 1) := by decide +kernel
theorem dX7_hangs_45 : decode cX7_hangs 45 = .ok (.ireturn, 1) := by decide +kernel
theorem dX7_bearsBurst_0 : decode cX7_bearsBurst 0 = .ok (.aload_n 0, 1) := by decide +kernel
theorem dX7_bearsBurst_1 : decode cX7_bearsBurst 1 = .ok (.iload_n 1, 1) := by decide +kernel
theorem dX7_bearsBurst_2 : decode cX7_bearsBurst 2 = .ok (.iconst 1, 1) := by decide +kernel
theorem dX7_bearsBurst_3 : decode cX7_bearsBurst 3 = .ok (.invokestatic 155, 3) := by decide +kernel
theorem dX7_bearsBurst_6 : decode cX7_bearsBurst 6 = .ok (.aload_n 0, 1) := by decide +kernel
theorem dX7_bearsBurst_7 : decode cX7_bearsBurst 7 = .ok (.iload_n 1, 1) := by decide +kernel
theorem dX7_bearsBurst_8 : decode cX7_bearsBurst 8 = .ok (.iconst 0, 1) := by decide +kernel
theorem dX7_bearsBurst_9 : decode cX7_bearsBurst 9 = .ok (.invokestatic 155, 3) := by decide +kernel
theorem dX7_bearsBurst_12 : decode cX7_bearsBurst 12 = .ok (.iconst 5, 1) := by decide +kernel
theorem dX7_bearsBurst_13 : decode cX7_bearsBurst 13 = .ok (.if_icmp .ne 8, 3) := by decide +kernel
theorem dX7_bearsBurst_16 : decode cX7_bearsBurst 16 = .ok (.bipush 10, 2) := by decide +kernel
theorem dX7_bearsBurst_18 : decode cX7_bearsBurst 18 = .ok (.goto 4, 3) := by decide +kernel
theorem dX7_bearsBurst_21 : decode cX7_bearsBurst 21 = .ok (.iconst 0, 1) := by decide +kernel
theorem dX7_bearsBurst_22 : decode cX7_bearsBurst 22 = .ok (.iadd, 1) := by decide +kernel
theorem dX7_bearsBurst_23 : decode cX7_bearsBurst 23 = .ok (.ireturn, 1) := by decide +kernel
theorem dX7_bearsPull_0 : decode cX7_bearsPull 0 = .ok (.aload_n 0, 1) := by decide +kernel
theorem dX7_bearsPull_1 : decode cX7_bearsPull 1 = .ok (.iload_n 1, 1) := by decide +kernel
theorem dX7_bearsPull_2 : decode cX7_bearsPull 2 = .ok (.iconst 0, 1) := by decide +kernel
theorem dX7_bearsPull_3 : decode cX7_bearsPull 3 = .ok (.invokestatic 155, 3) := by decide +kernel
theorem dX7_bearsPull_6 : decode cX7_bearsPull 6 = .ok (.iconst 3, 1) := by decide +kernel
theorem dX7_bearsPull_7 : decode cX7_bearsPull 7 = .ok (.if_icmp .ne 16, 3) := by decide +kernel
theorem dX7_bearsPull_10 : decode cX7_bearsPull 10 = .ok (.aload_n 0, 1) := by decide +kernel
theorem dX7_bearsPull_11 : decode cX7_bearsPull 11 = .ok (.iload_n 1, 1) := by decide +kernel
theorem dX7_bearsPull_12 : decode cX7_bearsPull 12 = .ok (.iconst 3, 1) := by decide +kernel
theorem dX7_bearsPull_13 : decode cX7_bearsPull 13 = .ok (.invokestatic 155, 3) := by decide +kernel
theorem dX7_bearsPull_16 : decode cX7_bearsPull 16 = .ok (.iconst 1, 1) := by decide +kernel
theorem dX7_bearsPull_17 : decode cX7_bearsPull 17 = .ok (.iadd, 1) := by decide +kernel
theorem dX7_bearsPull_18 : decode cX7_bearsPull 18 = .ok (.iconst 2, 1) := by decide +kernel
theorem dX7_bearsPull_19 : decode cX7_bearsPull 19 = .ok (.idiv, 1) := by decide +kernel
theorem dX7_bearsPull_20 : decode cX7_bearsPull 20 = .ok (.goto 9, 3) := by decide +kernel
theorem dX7_bearsPull_23 : decode cX7_bearsPull 23 = .ok (.aload_n 0, 1) := by decide +kernel
theorem dX7_bearsPull_24 : decode cX7_bearsPull 24 = .ok (.iload_n 1, 1) := by decide +kernel
theorem dX7_bearsPull_25 : decode cX7_bearsPull 25 = .ok (.iconst 3, 1) := by decide +kernel
theorem dX7_bearsPull_26 : decode cX7_bearsPull 26 = .ok (.invokestatic 155, 3) := by decide +kernel
theorem dX7_bearsPull_29 : decode cX7_bearsPull 29 = .ok (.ireturn, 1) := by decide +kernel
theorem dX7_bearsCrush_0 : decode cX7_bearsCrush 0 = .ok (.aload_n 0, 1) := by decide +kernel
theorem dX7_bearsCrush_1 : decode cX7_bearsCrush 1 = .ok (.iload_n 1, 1) := by decide +kernel
theorem dX7_bearsCrush_2 : decode cX7_bearsCrush 2 = .ok (.iconst 0, 1) := by decide +kernel
theorem dX7_bearsCrush_3 : decode cX7_bearsCrush 3 = .ok (.invokestatic 155, 3) := by decide +kernel
theorem dX7_bearsCrush_6 : decode cX7_bearsCrush 6 = .ok (.istore_n 3, 1) := by decide +kernel
theorem dX7_bearsCrush_7 : decode cX7_bearsCrush 7 = .ok (.iload_n 3, 1) := by decide +kernel
theorem dX7_bearsCrush_8 : decode cX7_bearsCrush 8 = .ok (.iconst 4, 1) := by decide +kernel
theorem dX7_bearsCrush_9 : decode cX7_bearsCrush 9 = .ok (.if_icmp .lt 10, 3) := by decide +kernel
theorem dX7_bearsCrush_12 : decode cX7_bearsCrush 12 = .ok (.aload_n 0, 1) := by decide +kernel
theorem dX7_bearsCrush_13 : decode cX7_bearsCrush 13 = .ok (.iload_n 1, 1) := by decide +kernel
theorem dX7_bearsCrush_14 : decode cX7_bearsCrush 14 = .ok (.iconst 2, 1) := by decide +kernel
theorem dX7_bearsCrush_15 : decode cX7_bearsCrush 15 = .ok (.invokestatic 155, 3) := by decide +kernel
theorem dX7_bearsCrush_18 : decode cX7_bearsCrush 18 = .ok (.ireturn, 1) := by decide +kernel
theorem dX7_bearsCrush_19 : decode cX7_bearsCrush 19 = .ok (.bipush 10, 2) := by decide +kernel
theorem dX7_bearsCrush_21 : decode cX7_bearsCrush 21 = .ok (.iload_n 2, 1) := by decide +kernel
theorem dX7_bearsCrush_22 : decode cX7_bearsCrush 22 = .ok (.imul, 1) := by decide +kernel
theorem dX7_bearsCrush_23 : decode cX7_bearsCrush 23 = .ok (.aload_n 0, 1) := by decide +kernel
theorem dX7_bearsCrush_24 : decode cX7_bearsCrush 24 = .ok (.iload_n 1, 1) := by decide +kernel
theorem dX7_bearsCrush_25 : decode cX7_bearsCrush 25 = .ok (.invokestatic 159, 3) := by decide +kernel
theorem dX7_bearsCrush_28 : decode cX7_bearsCrush 28 = .ok (.idiv, 1) := by decide +kernel
theorem dX7_bearsCrush_29 : decode cX7_bearsCrush 29 = .ok (.istore 4, 2) := by decide +kernel
theorem dX7_bearsCrush_31 : decode cX7_bearsCrush 31 = .ok (.iload 4, 2) := by decide +kernel
theorem dX7_bearsCrush_33 : decode cX7_bearsCrush 33 = .ok (.bipush 10, 2) := by decide +kernel
theorem dX7_bearsCrush_35 : decode cX7_bearsCrush 35 = .ok (.if_icmp .le 8, 3) := by decide +kernel
theorem dX7_bearsCrush_38 : decode cX7_bearsCrush 38 = .ok (.bipush 10, 2) := by decide +kernel
theorem dX7_bearsCrush_40 : decode cX7_bearsCrush 40 = .ok (.goto 5, 3) := by decide +kernel
theorem dX7_bearsCrush_43 : decode cX7_bearsCrush 43 = .ok (.iload 4, 2) := by decide +kernel
theorem dX7_bearsCrush_45 : decode cX7_bearsCrush 45 = .ok (.istore 4, 2) := by decide +kernel
theorem dX7_bearsCrush_47 : decode cX7_bearsCrush 47 = .ok (.iload_n 3, 1) := by decide +kernel
theorem dX7_bearsCrush_48 : decode cX7_bearsCrush 48 = .ok (.iconst 2, 1) := by decide +kernel
theorem dX7_bearsCrush_49 : decode cX7_bearsCrush 49 = .ok (.if_icmp .ne 10, 3) := by decide +kernel
theorem dX7_bearsCrush_52 : decode cX7_bearsCrush 52 = .ok (.iload 4, 2) := by decide +kernel
theorem dX7_bearsCrush_54 : decode cX7_bearsCrush 54 = .ok (.iconst 2, 1) := by decide +kernel
theorem dX7_bearsCrush_55 : decode cX7_bearsCrush 55 = .ok (.idiv, 1) := by decide +kernel
theorem dX7_bearsCrush_56 : decode cX7_bearsCrush 56 = .ok (.goto 5, 3) := by decide +kernel
theorem dX7_bearsCrush_59 : decode cX7_bearsCrush 59 = .ok (.iload 4, 2) := by decide +kernel
theorem dX7_bearsCrush_61 : decode cX7_bearsCrush 61 = .ok (.istore 4, 2) := by decide +kernel
theorem dX7_bearsCrush_63 : decode cX7_bearsCrush 63 = .ok (.aload_n 0, 1) := by decide +kernel
theorem dX7_bearsCrush_64 : decode cX7_bearsCrush 64 = .ok (.iload_n 1, 1) := by decide +kernel
theorem dX7_bearsCrush_65 : decode cX7_bearsCrush 65 = .ok (.iconst 2, 1) := by decide +kernel
theorem dX7_bearsCrush_66 : decode cX7_bearsCrush 66 = .ok (.invokestatic 155, 3) := by decide +kernel
theorem dX7_bearsCrush_69 : decode cX7_bearsCrush 69 = .ok (.bipush 10, 2) := by decide +kernel
theorem dX7_bearsCrush_71 : decode cX7_bearsCrush 71 = .ok (.iload 4, 2) := by decide +kernel
theorem dX7_bearsCrush_73 : decode cX7_bearsCrush 73 = .ok (.isub, 1) := by decide +kernel
theorem dX7_bearsCrush_74 : decode cX7_bearsCrush 74 = .ok (.imul, 1) := by decide +kernel
theorem dX7_bearsCrush_75 : decode cX7_bearsCrush 75 = .ok (.bipush 10, 2) := by decide +kernel
theorem dX7_bearsCrush_77 : decode cX7_bearsCrush 77 = .ok (.idiv, 1) := by decide +kernel
theorem dX7_bearsCrush_78 : decode cX7_bearsCrush 78 = .ok (.ireturn, 1) := by decide +kernel
theorem dX7_wouldHold_0 : decode cX7_wouldHold 0 = .ok (.aload_n 0, 1) := by decide +kernel
theorem dX7_wouldHold_1 : decode cX7_wouldHold 1 = .ok (.iload_n 2, 1) := by decide +kernel
theorem dX7_wouldHold_2 : decode cX7_wouldHold 2 = .ok (.invokestatic 163, 3) := by decide +kernel
theorem dX7_wouldHold_5 : decode cX7_wouldHold 5 = .ok (.aload_n 0, 1) := by decide +kernel
theorem dX7_wouldHold_6 : decode cX7_wouldHold 6 = .ok (.iload_n 1, 1) := by decide +kernel
theorem dX7_wouldHold_7 : decode cX7_wouldHold 7 = .ok (.invokestatic 166, 3) := by decide +kernel
theorem dX7_wouldHold_10 : decode cX7_wouldHold 10 = .ok (.if_icmp .lt 30, 3) := by decide +kernel
theorem dX7_wouldHold_13 : decode cX7_wouldHold 13 = .ok (.aload_n 0, 1) := by decide +kernel
theorem dX7_wouldHold_14 : decode cX7_wouldHold 14 = .ok (.iload_n 2, 1) := by decide +kernel
theorem dX7_wouldHold_15 : decode cX7_wouldHold 15 = .ok (.iload_n 3, 1) := by decide +kernel
theorem dX7_wouldHold_16 : decode cX7_wouldHold 16 = .ok (.invokestatic 169, 3) := by decide +kernel
theorem dX7_wouldHold_19 : decode cX7_wouldHold 19 = .ok (.aload_n 0, 1) := by decide +kernel
theorem dX7_wouldHold_20 : decode cX7_wouldHold 20 = .ok (.iload_n 1, 1) := by decide +kernel
theorem dX7_wouldHold_21 : decode cX7_wouldHold 21 = .ok (.invokestatic 172, 3) := by decide +kernel
theorem dX7_wouldHold_24 : decode cX7_wouldHold 24 = .ok (.if_icmp .lt 16, 3) := by decide +kernel
theorem dX7_wouldHold_27 : decode cX7_wouldHold 27 = .ok (.aload_n 0, 1) := by decide +kernel
theorem dX7_wouldHold_28 : decode cX7_wouldHold 28 = .ok (.iload_n 2, 1) := by decide +kernel
theorem dX7_wouldHold_29 : decode cX7_wouldHold 29 = .ok (.invokestatic 159, 3) := by decide +kernel
theorem dX7_wouldHold_32 : decode cX7_wouldHold 32 = .ok (.iload_n 3, 1) := by decide +kernel
theorem dX7_wouldHold_33 : decode cX7_wouldHold 33 = .ok (.if_icmp .lt 7, 3) := by decide +kernel
theorem dX7_wouldHold_36 : decode cX7_wouldHold 36 = .ok (.iconst 1, 1) := by decide +kernel
theorem dX7_wouldHold_37 : decode cX7_wouldHold 37 = .ok (.goto 4, 3) := by decide +kernel
theorem dX7_wouldHold_40 : decode cX7_wouldHold 40 = .ok (.iconst 0, 1) := by decide +kernel
theorem dX7_wouldHold_41 : decode cX7_wouldHold 41 = .ok (.ireturn, 1) := by decide +kernel
theorem dX7_holds_0 : decode cX7_holds 0 = .ok (.aload_n 0, 1) := by decide +kernel
theorem dX7_holds_1 : decode cX7_holds 1 = .ok (.bipush 36, 2) := by decide +kernel
theorem dX7_holds_3 : decode cX7_holds 3 = .ok (.iload_n 1, 1) := by decide +kernel
theorem dX7_holds_4 : decode cX7_holds 4 = .ok (.iadd, 1) := by decide +kernel
theorem dX7_holds_5 : decode cX7_holds 5 = .ok (.iaload, 1) := by decide +kernel
theorem dX7_holds_6 : decode cX7_holds 6 = .ok (.ifCond .lt 26, 3) := by decide +kernel
theorem dX7_holds_9 : decode cX7_holds 9 = .ok (.aload_n 0, 1) := by decide +kernel
theorem dX7_holds_10 : decode cX7_holds 10 = .ok (.iload_n 1, 1) := by decide +kernel
theorem dX7_holds_11 : decode cX7_holds 11 = .ok (.aload_n 0, 1) := by decide +kernel
theorem dX7_holds_12 : decode cX7_holds 12 = .ok (.bipush 36, 2) := by decide +kernel
theorem dX7_holds_14 : decode cX7_holds 14 = .ok (.iload_n 1, 1) := by decide +kernel
theorem dX7_holds_15 : decode cX7_holds 15 = .ok (.iadd, 1) := by decide +kernel
theorem dX7_holds_16 : decode cX7_holds 16 = .ok (.iaload, 1) := by decide +kernel
theorem dX7_holds_17 : decode cX7_holds 17 = .ok (.aload_n 0, 1) := by decide +kernel
theorem dX7_holds_18 : decode cX7_holds 18 = .ok (.iload_n 1, 1) := by decide +kernel
theorem dX7_holds_19 : decode cX7_holds 19 = .ok (.invokestatic 175, 3) := by decide +kernel
theorem dX7_holds_22 : decode cX7_holds 22 = .ok (.invokestatic 178, 3) := by decide +kernel
theorem dX7_holds_25 : decode cX7_holds 25 = .ok (.ifCond .eq 7, 3) := by decide +kernel
theorem dX7_holds_28 : decode cX7_holds 28 = .ok (.iconst 1, 1) := by decide +kernel
theorem dX7_holds_29 : decode cX7_holds 29 = .ok (.goto 4, 3) := by decide +kernel
theorem dX7_holds_32 : decode cX7_holds 32 = .ok (.iconst 0, 1) := by decide +kernel
theorem dX7_holds_33 : decode cX7_holds 33 = .ok (.ireturn, 1) := by decide +kernel
theorem dX7_manyHold_0 : decode cX7_manyHold 0 = .ok (.iconst 0, 1) := by decide +kernel
theorem dX7_manyHold_1 : decode cX7_manyHold 1 = .ok (.istore_n 1, 1) := by decide +kernel
theorem dX7_manyHold_2 : decode cX7_manyHold 2 = .ok (.iconst 0, 1) := by decide +kernel
theorem dX7_manyHold_3 : decode cX7_manyHold 3 = .ok (.istore_n 2, 1) := by decide +kernel
theorem dX7_manyHold_4 : decode cX7_manyHold 4 = .ok (.iload_n 2, 1) := by decide +kernel
theorem dX7_manyHold_5 : decode cX7_manyHold 5 = .ok (.aload_n 0, 1) := by decide +kernel
theorem dX7_manyHold_6 : decode cX7_manyHold 6 = .ok (.iconst 0, 1) := by decide +kernel
theorem dX7_manyHold_7 : decode cX7_manyHold 7 = .ok (.iaload, 1) := by decide +kernel
theorem dX7_manyHold_8 : decode cX7_manyHold 8 = .ok (.if_icmp .ge 25, 3) := by decide +kernel
theorem dX7_manyHold_11 : decode cX7_manyHold 11 = .ok (.iload_n 1, 1) := by decide +kernel
theorem dX7_manyHold_12 : decode cX7_manyHold 12 = .ok (.aload_n 0, 1) := by decide +kernel
theorem dX7_manyHold_13 : decode cX7_manyHold 13 = .ok (.iload_n 2, 1) := by decide +kernel
theorem dX7_manyHold_14 : decode cX7_manyHold 14 = .ok (.invokestatic 182, 3) := by decide +kernel
theorem dX7_manyHold_17 : decode cX7_manyHold 17 = .ok (.ifCond .eq 7, 3) := by decide +kernel
theorem dX7_manyHold_20 : decode cX7_manyHold 20 = .ok (.iconst 1, 1) := by decide +kernel
theorem dX7_manyHold_21 : decode cX7_manyHold 21 = .ok (.goto 4, 3) := by decide +kernel
theorem dX7_manyHold_24 : decode cX7_manyHold 24 = .ok (.iconst 0, 1) := by decide +kernel
theorem dX7_manyHold_25 : decode cX7_manyHold 25 = .ok (.iadd, 1) := by decide +kernel
theorem dX7_manyHold_26 : decode cX7_manyHold 26 = .ok (.istore_n 1, 1) := by decide +kernel
theorem dX7_manyHold_27 : decode cX7_manyHold 27 = .ok (.iinc 2 1, 3) := by decide +kernel
theorem dX7_manyHold_30 : decode cX7_manyHold 30 = .ok (.goto (-26), 3) := by decide +kernel
theorem dX7_manyHold_33 : decode cX7_manyHold 33 = .ok (.iload_n 1, 1) := by decide +kernel
theorem dX7_manyHold_34 : decode cX7_manyHold 34 = .ok (.ireturn, 1) := by decide +kernel
theorem dX7_costOf_0 : decode cX7_costOf 0 = .ok (.iconst 0, 1) := by decide +kernel
theorem dX7_costOf_1 : decode cX7_costOf 1 = .ok (.istore_n 1, 1) := by decide +kernel
theorem dX7_costOf_2 : decode cX7_costOf 2 = .ok (.iconst 0, 1) := by decide +kernel
theorem dX7_costOf_3 : decode cX7_costOf 3 = .ok (.istore_n 2, 1) := by decide +kernel
theorem dX7_costOf_4 : decode cX7_costOf 4 = .ok (.iload_n 2, 1) := by decide +kernel
theorem dX7_costOf_5 : decode cX7_costOf 5 = .ok (.aload_n 0, 1) := by decide +kernel
theorem dX7_costOf_6 : decode cX7_costOf 6 = .ok (.iconst 0, 1) := by decide +kernel
theorem dX7_costOf_7 : decode cX7_costOf 7 = .ok (.iaload, 1) := by decide +kernel
theorem dX7_costOf_8 : decode cX7_costOf 8 = .ok (.if_icmp .ge 36, 3) := by decide +kernel
theorem dX7_costOf_11 : decode cX7_costOf 11 = .ok (.iload_n 1, 1) := by decide +kernel
theorem dX7_costOf_12 : decode cX7_costOf 12 = .ok (.aload_n 0, 1) := by decide +kernel
theorem dX7_costOf_13 : decode cX7_costOf 13 = .ok (.bipush 36, 2) := by decide +kernel
theorem dX7_costOf_15 : decode cX7_costOf 15 = .ok (.iload_n 2, 1) := by decide +kernel
theorem dX7_costOf_16 : decode cX7_costOf 16 = .ok (.iadd, 1) := by decide +kernel
theorem dX7_costOf_17 : decode cX7_costOf 17 = .ok (.iaload, 1) := by decide +kernel
theorem dX7_costOf_18 : decode cX7_costOf 18 = .ok (.ifCond .ge 7, 3) := by decide +kernel
theorem dX7_costOf_21 : decode cX7_costOf 21 = .ok (.iconst 0, 1) := by decide +kernel
theorem dX7_costOf_22 : decode cX7_costOf 22 = .ok (.goto 14, 3) := by decide +kernel
theorem dX7_costOf_25 : decode cX7_costOf 25 = .ok (.aload_n 0, 1) := by decide +kernel
theorem dX7_costOf_26 : decode cX7_costOf 26 = .ok (.aload_n 0, 1) := by decide +kernel
theorem dX7_costOf_27 : decode cX7_costOf 27 = .ok (.bipush 36, 2) := by decide +kernel
theorem dX7_costOf_29 : decode cX7_costOf 29 = .ok (.iload_n 2, 1) := by decide +kernel
theorem dX7_costOf_30 : decode cX7_costOf 30 = .ok (.iadd, 1) := by decide +kernel
theorem dX7_costOf_31 : decode cX7_costOf 31 = .ok (.iaload, 1) := by decide +kernel
theorem dX7_costOf_32 : decode cX7_costOf 32 = .ok (.iconst 5, 1) := by decide +kernel
theorem dX7_costOf_33 : decode cX7_costOf 33 = .ok (.invokestatic 155, 3) := by decide +kernel
theorem dX7_costOf_36 : decode cX7_costOf 36 = .ok (.iadd, 1) := by decide +kernel
theorem dX7_costOf_37 : decode cX7_costOf 37 = .ok (.istore_n 1, 1) := by decide +kernel
theorem dX7_costOf_38 : decode cX7_costOf 38 = .ok (.iinc 2 1, 3) := by decide +kernel
theorem dX7_costOf_41 : decode cX7_costOf 41 = .ok (.goto (-37), 3) := by decide +kernel
theorem dX7_costOf_44 : decode cX7_costOf 44 = .ok (.iload_n 1, 1) := by decide +kernel
theorem dX7_costOf_45 : decode cX7_costOf 45 = .ok (.ireturn, 1) := by decide +kernel
theorem dX7_sectionOf_0 : decode cX7_sectionOf 0 = .ok (.aload_n 0, 1) := by decide +kernel
theorem dX7_sectionOf_1 : decode cX7_sectionOf 1 = .ok (.bipush 36, 2) := by decide +kernel
theorem dX7_sectionOf_3 : decode cX7_sectionOf 3 = .ok (.iload_n 1, 1) := by decide +kernel
theorem dX7_sectionOf_4 : decode cX7_sectionOf 4 = .ok (.iadd, 1) := by decide +kernel
theorem dX7_sectionOf_5 : decode cX7_sectionOf 5 = .ok (.iaload, 1) := by decide +kernel
theorem dX7_sectionOf_6 : decode cX7_sectionOf 6 = .ok (.istore_n 2, 1) := by decide +kernel
theorem dX7_sectionOf_7 : decode cX7_sectionOf 7 = .ok (.iload_n 2, 1) := by decide +kernel
theorem dX7_sectionOf_8 : decode cX7_sectionOf 8 = .ok (.ifCond .ge 5, 3) := by decide +kernel
theorem dX7_sectionOf_11 : decode cX7_sectionOf 11 = .ok (.iconst 0, 1) := by decide +kernel
theorem dX7_sectionOf_12 : decode cX7_sectionOf 12 = .ok (.ireturn, 1) := by decide +kernel
theorem dX7_sectionOf_13 : decode cX7_sectionOf 13 = .ok (.iload_n 1, 1) := by decide +kernel
theorem dX7_sectionOf_14 : decode cX7_sectionOf 14 = .ok (.istore_n 3, 1) := by decide +kernel
theorem dX7_sectionOf_15 : decode cX7_sectionOf 15 = .ok (.iload_n 3, 1) := by decide +kernel
theorem dX7_sectionOf_16 : decode cX7_sectionOf 16 = .ok (.ifCond .le 21, 3) := by decide +kernel
theorem dX7_sectionOf_19 : decode cX7_sectionOf 19 = .ok (.aload_n 0, 1) := by decide +kernel
theorem dX7_sectionOf_20 : decode cX7_sectionOf 20 = .ok (.bipush 36, 2) := by decide +kernel
theorem dX7_sectionOf_22 : decode cX7_sectionOf 22 = .ok (.iload_n 3, 1) := by decide +kernel
theorem dX7_sectionOf_23 : decode cX7_sectionOf 23 = .ok (.iadd, 1) := by decide +kernel
theorem dX7_sectionOf_24 : decode cX7_sectionOf 24 = .ok (.iconst 1, 1) := by decide +kernel
theorem dX7_sectionOf_25 : decode cX7_sectionOf 25 = .ok (.isub, 1) := by decide +kernel
theorem dX7_sectionOf_26 : decode cX7_sectionOf 26 = .ok (.iaload, 1) := by decide +kernel
theorem dX7_sectionOf_27 : decode cX7_sectionOf 27 = .ok (.iload_n 2, 1) := by decide +kernel
theorem dX7_sectionOf_28 : decode cX7_sectionOf 28 = .ok (.if_icmp .ne 9, 3) := by decide +kernel
theorem dX7_sectionOf_31 : decode cX7_sectionOf 31 = .ok (.iinc 3 (-1), 3) := by decide +kernel
theorem dX7_sectionOf_34 : decode cX7_sectionOf 34 = .ok (.goto (-19), 3) := by decide +kernel
theorem dX7_sectionOf_37 : decode cX7_sectionOf 37 = .ok (.iload_n 1, 1) := by decide +kernel
theorem dX7_sectionOf_38 : decode cX7_sectionOf 38 = .ok (.istore 4, 2) := by decide +kernel
theorem dX7_sectionOf_40 : decode cX7_sectionOf 40 = .ok (.iload 4, 2) := by decide +kernel
theorem dX7_sectionOf_42 : decode cX7_sectionOf 42 = .ok (.iconst 1, 1) := by decide +kernel
theorem dX7_sectionOf_43 : decode cX7_sectionOf 43 = .ok (.iadd, 1) := by decide +kernel
theorem dX7_sectionOf_44 : decode cX7_sectionOf 44 = .ok (.aload_n 0, 1) := by decide +kernel
theorem dX7_sectionOf_45 : decode cX7_sectionOf 45 = .ok (.iconst 0, 1) := by decide +kernel
theorem dX7_sectionOf_46 : decode cX7_sectionOf 46 = .ok (.iaload, 1) := by decide +kernel
theorem dX7_sectionOf_47 : decode cX7_sectionOf 47 = .ok (.if_icmp .ge 22, 3) := by decide +kernel
theorem dX7_sectionOf_50 : decode cX7_sectionOf 50 = .ok (.aload_n 0, 1) := by decide +kernel
theorem dX7_sectionOf_51 : decode cX7_sectionOf 51 = .ok (.bipush 36, 2) := by decide +kernel
theorem dX7_sectionOf_53 : decode cX7_sectionOf 53 = .ok (.iload 4, 2) := by decide +kernel
theorem dX7_sectionOf_55 : decode cX7_sectionOf 55 = .ok (.iadd, 1) := by decide +kernel
theorem dX7_sectionOf_56 : decode cX7_sectionOf 56 = .ok (.iconst 1, 1) := by decide +kernel
theorem dX7_sectionOf_57 : decode cX7_sectionOf 57 = .ok (.iadd, 1) := by decide +kernel
theorem dX7_sectionOf_58 : decode cX7_sectionOf 58 = .ok (.iaload, 1) := by decide +kernel
theorem dX7_sectionOf_59 : decode cX7_sectionOf 59 = .ok (.iload_n 2, 1) := by decide +kernel
theorem dX7_sectionOf_60 : decode cX7_sectionOf 60 = .ok (.if_icmp .ne 9, 3) := by decide +kernel
theorem dX7_sectionOf_63 : decode cX7_sectionOf 63 = .ok (.iinc 4 1, 3) := by decide +kernel
theorem dX7_sectionOf_66 : decode cX7_sectionOf 66 = .ok (.goto (-26), 3) := by decide +kernel
theorem dX7_sectionOf_69 : decode cX7_sectionOf 69 = .ok (.iload 4, 2) := by decide +kernel
theorem dX7_sectionOf_71 : decode cX7_sectionOf 71 = .ok (.iload_n 3, 1) := by decide +kernel
theorem dX7_sectionOf_72 : decode cX7_sectionOf 72 = .ok (.isub, 1) := by decide +kernel
theorem dX7_sectionOf_73 : decode cX7_sectionOf 73 = .ok (.iconst 1, 1) := by decide +kernel
theorem dX7_sectionOf_74 : decode cX7_sectionOf 74 = .ok (.iadd, 1) := by decide +kernel
theorem dX7_sectionOf_75 : decode cX7_sectionOf 75 = .ok (.ireturn, 1) := by decide +kernel
theorem dX7_sections_0 : decode cX7_sections 0 = .ok (.iconst 0, 1) := by decide +kernel
theorem dX7_sections_1 : decode cX7_sections 1 = .ok (.istore_n 1, 1) := by decide +kernel
theorem dX7_sections_2 : decode cX7_sections 2 = .ok (.iconst 0, 1) := by decide +kernel
theorem dX7_sections_3 : decode cX7_sections 3 = .ok (.istore_n 2, 1) := by decide +kernel
theorem dX7_sections_4 : decode cX7_sections 4 = .ok (.iload_n 2, 1) := by decide +kernel
theorem dX7_sections_5 : decode cX7_sections 5 = .ok (.aload_n 0, 1) := by decide +kernel
theorem dX7_sections_6 : decode cX7_sections 6 = .ok (.iconst 0, 1) := by decide +kernel
theorem dX7_sections_7 : decode cX7_sections 7 = .ok (.iaload, 1) := by decide +kernel
theorem dX7_sections_8 : decode cX7_sections 8 = .ok (.if_icmp .ge 47, 3) := by decide +kernel
theorem dX7_sections_11 : decode cX7_sections 11 = .ok (.iload_n 1, 1) := by decide +kernel
theorem dX7_sections_12 : decode cX7_sections 12 = .ok (.aload_n 0, 1) := by decide +kernel
theorem dX7_sections_13 : decode cX7_sections 13 = .ok (.bipush 36, 2) := by decide +kernel
theorem dX7_sections_15 : decode cX7_sections 15 = .ok (.iload_n 2, 1) := by decide +kernel
theorem dX7_sections_16 : decode cX7_sections 16 = .ok (.iadd, 1) := by decide +kernel
theorem dX7_sections_17 : decode cX7_sections 17 = .ok (.iaload, 1) := by decide +kernel
theorem dX7_sections_18 : decode cX7_sections 18 = .ok (.ifCond .lt 28, 3) := by decide +kernel
theorem dX7_sections_21 : decode cX7_sections 21 = .ok (.iload_n 2, 1) := by decide +kernel
theorem dX7_sections_22 : decode cX7_sections 22 = .ok (.ifCond .eq 20, 3) := by decide +kernel
theorem dX7_sections_25 : decode cX7_sections 25 = .ok (.aload_n 0, 1) := by decide +kernel
theorem dX7_sections_26 : decode cX7_sections 26 = .ok (.bipush 36, 2) := by decide +kernel
theorem dX7_sections_28 : decode cX7_sections 28 = .ok (.iload_n 2, 1) := by decide +kernel
theorem dX7_sections_29 : decode cX7_sections 29 = .ok (.iadd, 1) := by decide +kernel
theorem dX7_sections_30 : decode cX7_sections 30 = .ok (.iconst 1, 1) := by decide +kernel
theorem dX7_sections_31 : decode cX7_sections 31 = .ok (.isub, 1) := by decide +kernel
theorem dX7_sections_32 : decode cX7_sections 32 = .ok (.iaload, 1) := by decide +kernel
theorem dX7_sections_33 : decode cX7_sections 33 = .ok (.aload_n 0, 1) := by decide +kernel
theorem dX7_sections_34 : decode cX7_sections 34 = .ok (.bipush 36, 2) := by decide +kernel
theorem dX7_sections_36 : decode cX7_sections 36 = .ok (.iload_n 2, 1) := by decide +kernel
theorem dX7_sections_37 : decode cX7_sections 37 = .ok (.iadd, 1) := by decide +kernel
theorem dX7_sections_38 : decode cX7_sections 38 = .ok (.iaload, 1) := by decide +kernel
theorem dX7_sections_39 : decode cX7_sections 39 = .ok (.if_icmp .eq 7, 3) := by decide +kernel
theorem dX7_sections_42 : decode cX7_sections 42 = .ok (.iconst 1, 1) := by decide +kernel
theorem dX7_sections_43 : decode cX7_sections 43 = .ok (.goto 4, 3) := by decide +kernel
theorem dX7_sections_46 : decode cX7_sections 46 = .ok (.iconst 0, 1) := by decide +kernel
theorem dX7_sections_47 : decode cX7_sections 47 = .ok (.iadd, 1) := by decide +kernel
theorem dX7_sections_48 : decode cX7_sections 48 = .ok (.istore_n 1, 1) := by decide +kernel
theorem dX7_sections_49 : decode cX7_sections 49 = .ok (.iinc 2 1, 3) := by decide +kernel
theorem dX7_sections_52 : decode cX7_sections 52 = .ok (.goto (-48), 3) := by decide +kernel
theorem dX7_sections_55 : decode cX7_sections 55 = .ok (.iload_n 1, 1) := by decide +kernel
theorem dX7_sections_56 : decode cX7_sections 56 = .ok (.ireturn, 1) := by decide +kernel
theorem dX7_isSound_0 : decode cX7_isSound 0 = .ok (.iconst 1, 1) := by decide +kernel
theorem dX7_isSound_1 : decode cX7_isSound 1 = .ok (.istore_n 1, 1) := by decide +kernel
theorem dX7_isSound_2 : decode cX7_isSound 2 = .ok (.iconst 0, 1) := by decide +kernel
theorem dX7_isSound_3 : decode cX7_isSound 3 = .ok (.istore_n 2, 1) := by decide +kernel
theorem dX7_isSound_4 : decode cX7_isSound 4 = .ok (.iload_n 2, 1) := by decide +kernel
theorem dX7_isSound_5 : decode cX7_isSound 5 = .ok (.aload_n 0, 1) := by decide +kernel
theorem dX7_isSound_6 : decode cX7_isSound 6 = .ok (.iconst 0, 1) := by decide +kernel
theorem dX7_isSound_7 : decode cX7_isSound 7 = .ok (.iaload, 1) := by decide +kernel
theorem dX7_isSound_8 : decode cX7_isSound 8 = .ok (.if_icmp .ge 38, 3) := by decide +kernel
theorem dX7_isSound_11 : decode cX7_isSound 11 = .ok (.iload_n 1, 1) := by decide +kernel
theorem dX7_isSound_12 : decode cX7_isSound 12 = .ok (.ifCond .eq 26, 3) := by decide +kernel
theorem dX7_isSound_15 : decode cX7_isSound 15 = .ok (.aload_n 0, 1) := by decide +kernel
theorem dX7_isSound_16 : decode cX7_isSound 16 = .ok (.iload_n 2, 1) := by decide +kernel
theorem dX7_isSound_17 : decode cX7_isSound 17 = .ok (.invokestatic 182, 3) := by decide +kernel
theorem dX7_isSound_20 : decode cX7_isSound 20 = .ok (.ifCond .eq 18, 3) := by decide +kernel
theorem dX7_isSound_23 : decode cX7_isSound 23 = .ok (.aload_n 0, 1) := by decide +kernel
theorem dX7_isSound_24 : decode cX7_isSound 24 = .ok (.iload_n 2, 1) := by decide +kernel
theorem dX7_isSound_25 : decode cX7_isSound 25 = .ok (.invokestatic 186, 3) := by decide +kernel
theorem dX7_isSound_28 : decode cX7_isSound 28 = .ok (.aload_n 0, 1) := by decide +kernel
theorem dX7_isSound_29 : decode cX7_isSound 29 = .ok (.iconst 1, 1) := by decide +kernel
theorem dX7_isSound_30 : decode cX7_isSound 30 = .ok (.iaload, 1) := by decide +kernel
theorem dX7_isSound_31 : decode cX7_isSound 31 = .ok (.if_icmp .lt 7, 3) := by decide +kernel
theorem dX7_isSound_34 : decode cX7_isSound 34 = .ok (.iconst 1, 1) := by decide +kernel
theorem dX7_isSound_35 : decode cX7_isSound 35 = .ok (.goto 4, 3) := by decide +kernel
theorem dX7_isSound_38 : decode cX7_isSound 38 = .ok (.iconst 0, 1) := by decide +kernel
theorem dX7_isSound_39 : decode cX7_isSound 39 = .ok (.istore_n 1, 1) := by decide +kernel
theorem dX7_isSound_40 : decode cX7_isSound 40 = .ok (.iinc 2 1, 3) := by decide +kernel
theorem dX7_isSound_43 : decode cX7_isSound 43 = .ok (.goto (-39), 3) := by decide +kernel
theorem dX7_isSound_46 : decode cX7_isSound 46 = .ok (.iload_n 1, 1) := by decide +kernel
theorem dX7_isSound_47 : decode cX7_isSound 47 = .ok (.ireturn, 1) := by decide +kernel
theorem dX7_layThen_0 : decode cX7_layThen 0 = .ok (.iconst 0, 1) := by decide +kernel
theorem dX7_layThen_1 : decode cX7_layThen 1 = .ok (.istore_n 1, 1) := by decide +kernel
theorem dX7_layThen_2 : decode cX7_layThen 2 = .ok (.iload_n 1, 1) := by decide +kernel
theorem dX7_layThen_3 : decode cX7_layThen 3 = .ok (.bipush 44, 2) := by decide +kernel
theorem dX7_layThen_5 : decode cX7_layThen 5 = .ok (.if_icmp .ge 21, 3) := by decide +kernel
theorem dX7_layThen_8 : decode cX7_layThen 8 = .ok (.aload_n 0, 1) := by decide +kernel
theorem dX7_layThen_9 : decode cX7_layThen 9 = .ok (.getfield 25, 3) := by decide +kernel
theorem dX7_layThen_12 : decode cX7_layThen 12 = .ok (.iload_n 1, 1) := by decide +kernel
theorem dX7_layThen_13 : decode cX7_layThen 13 = .ok (.aload_n 0, 1) := by decide +kernel
theorem dX7_layThen_14 : decode cX7_layThen 14 = .ok (.getfield 19, 3) := by decide +kernel
theorem dX7_layThen_17 : decode cX7_layThen 17 = .ok (.iload_n 1, 1) := by decide +kernel
theorem dX7_layThen_18 : decode cX7_layThen 18 = .ok (.iaload, 1) := by decide +kernel
theorem dX7_layThen_19 : decode cX7_layThen 19 = .ok (.iastore, 1) := by decide +kernel
theorem dX7_layThen_20 : decode cX7_layThen 20 = .ok (.iinc 1 1, 3) := by decide +kernel
theorem dX7_layThen_23 : decode cX7_layThen 23 = .ok (.goto (-21), 3) := by decide +kernel
theorem dX7_layThen_26 : decode cX7_layThen 26 = .ok (.return_, 1) := by decide +kernel
theorem dX7_at_0 : decode cX7_at 0 = .ok (.iload_n 0, 1) := by decide +kernel
theorem dX7_at_1 : decode cX7_at 1 = .ok (.bipush 73, 2) := by decide +kernel
theorem dX7_at_3 : decode cX7_at 3 = .ok (.imul, 1) := by decide +kernel
theorem dX7_at_4 : decode cX7_at 4 = .ok (.iload_n 1, 1) := by decide +kernel
theorem dX7_at_5 : decode cX7_at 5 = .ok (.iadd, 1) := by decide +kernel
theorem dX7_at_6 : decode cX7_at 6 = .ok (.bipush 6, 2) := by decide +kernel
theorem dX7_at_8 : decode cX7_at 8 = .ok (.imul, 1) := by decide +kernel
theorem dX7_at_9 : decode cX7_at 9 = .ok (.iload_n 2, 1) := by decide +kernel
theorem dX7_at_10 : decode cX7_at 10 = .ok (.iadd, 1) := by decide +kernel
theorem dX7_at_11 : decode cX7_at 11 = .ok (.iconst 1, 1) := by decide +kernel
theorem dX7_at_12 : decode cX7_at 12 = .ok (.iadd, 1) := by decide +kernel
theorem dX7_at_13 : decode cX7_at 13 = .ok (.iconst 4, 1) := by decide +kernel
theorem dX7_at_14 : decode cX7_at 14 = .ok (.imul, 1) := by decide +kernel
theorem dX7_at_15 : decode cX7_at 15 = .ok (.iload_n 3, 1) := by decide +kernel
theorem dX7_at_16 : decode cX7_at 16 = .ok (.iadd, 1) := by decide +kernel
theorem dX7_at_17 : decode cX7_at 17 = .ok (.ireturn, 1) := by decide +kernel
theorem dX7_through_0 : decode cX7_through 0 = .ok (.iload_n 3, 1) := by decide +kernel
theorem dX7_through_1 : decode cX7_through 1 = .ok (.aload_n 1, 1) := by decide +kernel
theorem dX7_through_2 : decode cX7_through 2 = .ok (.iload 6, 2) := by decide +kernel
theorem dX7_through_4 : decode cX7_through 4 = .ok (.iconst 4, 1) := by decide +kernel
theorem dX7_through_5 : decode cX7_through 5 = .ok (.invokestatic 155, 3) := by decide +kernel
theorem dX7_through_8 : decode cX7_through 8 = .ok (.iadd, 1) := by decide +kernel
theorem dX7_through_9 : decode cX7_through 9 = .ok (.istore 7, 2) := by decide +kernel
theorem dX7_through_11 : decode cX7_through 11 = .ok (.iload 6, 2) := by decide +kernel
theorem dX7_through_13 : decode cX7_through 13 = .ok (.iload 4, 2) := by decide +kernel
theorem dX7_through_15 : decode cX7_through 15 = .ok (.if_icmp .eq 7, 3) := by decide +kernel
theorem dX7_through_18 : decode cX7_through 18 = .ok (.iconst 1, 1) := by decide +kernel
theorem dX7_through_19 : decode cX7_through 19 = .ok (.goto 4, 3) := by decide +kernel
theorem dX7_through_22 : decode cX7_through 22 = .ok (.iconst 0, 1) := by decide +kernel
theorem dX7_through_23 : decode cX7_through 23 = .ok (.istore 8, 2) := by decide +kernel
theorem dX7_through_25 : decode cX7_through 25 = .ok (.iload 8, 2) := by decide +kernel
theorem dX7_through_27 : decode cX7_through 27 = .ok (.ifCond .eq 16, 3) := by decide +kernel
theorem dX7_through_30 : decode cX7_through 30 = .ok (.iload 4, 2) := by decide +kernel
theorem dX7_through_32 : decode cX7_through 32 = .ok (.ifCond .lt 11, 3) := by decide +kernel
theorem dX7_through_35 : decode cX7_through 35 = .ok (.iload 5, 2) := by decide +kernel
theorem dX7_through_37 : decode cX7_through 37 = .ok (.aload_n 1, 1) := by decide +kernel
theorem dX7_through_38 : decode cX7_through 38 = .ok (.iconst 1, 1) := by decide +kernel
theorem dX7_through_39 : decode cX7_through 39 = .ok (.iaload, 1) := by decide +kernel
theorem dX7_through_40 : decode cX7_through 40 = .ok (.if_icmp .lt 15, 3) := by decide +kernel
theorem dX7_through_43 : decode cX7_through 43 = .ok (.aload_n 1, 1) := by decide +kernel
theorem dX7_through_44 : decode cX7_through 44 = .ok (.iload_n 2, 1) := by decide +kernel
theorem dX7_through_45 : decode cX7_through 45 = .ok (.iload 6, 2) := by decide +kernel
theorem dX7_through_47 : decode cX7_through 47 = .ok (.iload 7, 2) := by decide +kernel
theorem dX7_through_49 : decode cX7_through 49 = .ok (.invokestatic 178, 3) := by decide +kernel
theorem dX7_through_52 : decode cX7_through 52 = .ok (.ifCond .ne 6, 3) := by decide +kernel
theorem dX7_through_55 : decode cX7_through 55 = .ok (.ldc 189, 2) := by decide +kernel
theorem dX7_through_57 : decode cX7_through 57 = .ok (.ireturn, 1) := by decide +kernel
theorem dX7_through_58 : decode cX7_through 58 = .ok (.iload 8, 2) := by decide +kernel
theorem dX7_through_60 : decode cX7_through 60 = .ok (.ifCond .eq 7, 3) := by decide +kernel
theorem dX7_through_63 : decode cX7_through 63 = .ok (.iconst 1, 1) := by decide +kernel
theorem dX7_through_64 : decode cX7_through 64 = .ok (.goto 17, 3) := by decide +kernel
theorem dX7_through_67 : decode cX7_through 67 = .ok (.iload 5, 2) := by decide +kernel
theorem dX7_through_69 : decode cX7_through 69 = .ok (.iconst 3, 1) := by decide +kernel
theorem dX7_through_70 : decode cX7_through 70 = .ok (.if_icmp .ge 10, 3) := by decide +kernel
theorem dX7_through_73 : decode cX7_through 73 = .ok (.iload 5, 2) := by decide +kernel
theorem dX7_through_75 : decode cX7_through 75 = .ok (.iconst 1, 1) := by decide +kernel
theorem dX7_through_76 : decode cX7_through 76 = .ok (.iadd, 1) := by decide +kernel
theorem dX7_through_77 : decode cX7_through 77 = .ok (.goto 4, 3) := by decide +kernel
theorem dX7_through_80 : decode cX7_through 80 = .ok (.iconst 3, 1) := by decide +kernel
theorem dX7_through_81 : decode cX7_through 81 = .ok (.istore 9, 2) := by decide +kernel
theorem dX7_through_83 : decode cX7_through 83 = .ok (.iload_n 2, 1) := by decide +kernel
theorem dX7_through_84 : decode cX7_through 84 = .ok (.ifCond .le 23, 3) := by decide +kernel
theorem dX7_through_87 : decode cX7_through 87 = .ok (.aload_n 0, 1) := by decide +kernel
theorem dX7_through_88 : decode cX7_through 88 = .ok (.getfield 34, 3) := by decide +kernel
theorem dX7_through_91 : decode cX7_through 91 = .ok (.iload_n 2, 1) := by decide +kernel
theorem dX7_through_92 : decode cX7_through 92 = .ok (.iconst 1, 1) := by decide +kernel
theorem dX7_through_93 : decode cX7_through 93 = .ok (.isub, 1) := by decide +kernel
theorem dX7_through_94 : decode cX7_through 94 = .ok (.iload 7, 2) := by decide +kernel
theorem dX7_through_96 : decode cX7_through 96 = .ok (.iload 6, 2) := by decide +kernel
theorem dX7_through_98 : decode cX7_through 98 = .ok (.iload 9, 2) := by decide +kernel
theorem dX7_through_100 : decode cX7_through 100 = .ok (.invokestatic 190, 3) := by decide +kernel
theorem dX7_through_103 : decode cX7_through 103 = .ok (.iaload, 1) := by decide +kernel
theorem dX7_through_104 : decode cX7_through 104 = .ok (.goto 17, 3) := by decide +kernel
theorem dX7_through_107 : decode cX7_through 107 = .ok (.iload 9, 2) := by decide +kernel
theorem dX7_through_109 : decode cX7_through 109 = .ok (.aload_n 1, 1) := by decide +kernel
theorem dX7_through_110 : decode cX7_through 110 = .ok (.iconst 1, 1) := by decide +kernel
theorem dX7_through_111 : decode cX7_through 111 = .ok (.iaload, 1) := by decide +kernel
theorem dX7_through_112 : decode cX7_through 112 = .ok (.if_icmp .ge 8, 3) := by decide +kernel
theorem dX7_through_115 : decode cX7_through 115 = .ok (.ldc 189, 2) := by decide +kernel
theorem dX7_through_117 : decode cX7_through 117 = .ok (.goto 4, 3) := by decide +kernel
theorem dX7_through_120 : decode cX7_through 120 = .ok (.iconst 0, 1) := by decide +kernel
theorem dX7_through_121 : decode cX7_through 121 = .ok (.istore 10, 2) := by decide +kernel
theorem dX7_through_123 : decode cX7_through 123 = .ok (.iload 10, 2) := by decide +kernel
theorem dX7_through_125 : decode cX7_through 125 = .ok (.ldc 189, 2) := by decide +kernel
theorem dX7_through_127 : decode cX7_through 127 = .ok (.if_icmp .ne 8, 3) := by decide +kernel
theorem dX7_through_130 : decode cX7_through 130 = .ok (.ldc 189, 2) := by decide +kernel
theorem dX7_through_132 : decode cX7_through 132 = .ok (.goto 24, 3) := by decide +kernel
theorem dX7_through_135 : decode cX7_through 135 = .ok (.iload 10, 2) := by decide +kernel
theorem dX7_through_137 : decode cX7_through 137 = .ok (.bipush 100, 2) := by decide +kernel
theorem dX7_through_139 : decode cX7_through 139 = .ok (.aload_n 1, 1) := by decide +kernel
theorem dX7_through_140 : decode cX7_through 140 = .ok (.iload 6, 2) := by decide +kernel
theorem dX7_through_142 : decode cX7_through 142 = .ok (.iconst 5, 1) := by decide +kernel
theorem dX7_through_143 : decode cX7_through 143 = .ok (.invokestatic 155, 3) := by decide +kernel
theorem dX7_through_146 : decode cX7_through 146 = .ok (.imul, 1) := by decide +kernel
theorem dX7_through_147 : decode cX7_through 147 = .ok (.iadd, 1) := by decide +kernel
theorem dX7_through_148 : decode cX7_through 148 = .ok (.aload_n 1, 1) := by decide +kernel
theorem dX7_through_149 : decode cX7_through 149 = .ok (.iload 6, 2) := by decide +kernel
theorem dX7_through_151 : decode cX7_through 151 = .ok (.iconst 4, 1) := by decide +kernel
theorem dX7_through_152 : decode cX7_through 152 = .ok (.invokestatic 155, 3) := by decide +kernel
theorem dX7_through_155 : decode cX7_through 155 = .ok (.iadd, 1) := by decide +kernel
theorem dX7_through_156 : decode cX7_through 156 = .ok (.ireturn, 1) := by decide +kernel
theorem dX7_leastAt_0 : decode cX7_leastAt 0 = .ok (.ldc 189, 2) := by decide +kernel
theorem dX7_leastAt_2 : decode cX7_leastAt 2 = .ok (.istore 7, 2) := by decide +kernel
theorem dX7_leastAt_4 : decode cX7_leastAt 4 = .ok (.iconst 0, 1) := by decide +kernel
theorem dX7_leastAt_5 : decode cX7_leastAt 5 = .ok (.istore 8, 2) := by decide +kernel
theorem dX7_leastAt_7 : decode cX7_leastAt 7 = .ok (.iload 8, 2) := by decide +kernel
theorem dX7_leastAt_9 : decode cX7_leastAt 9 = .ok (.aload_n 1, 1) := by decide +kernel
theorem dX7_leastAt_10 : decode cX7_leastAt 10 = .ok (.iconst 5, 1) := by decide +kernel
theorem dX7_leastAt_11 : decode cX7_leastAt 11 = .ok (.iaload, 1) := by decide +kernel
theorem dX7_leastAt_12 : decode cX7_leastAt 12 = .ok (.if_icmp .ge 52, 3) := by decide +kernel
theorem dX7_leastAt_15 : decode cX7_leastAt 15 = .ok (.iload 8, 2) := by decide +kernel
theorem dX7_leastAt_17 : decode cX7_leastAt 17 = .ok (.iload 6, 2) := by decide +kernel
theorem dX7_leastAt_19 : decode cX7_leastAt 19 = .ok (.if_icmp .ne 8, 3) := by decide +kernel
theorem dX7_leastAt_22 : decode cX7_leastAt 22 = .ok (.ldc 189, 2) := by decide +kernel
theorem dX7_leastAt_24 : decode cX7_leastAt 24 = .ok (.goto 16, 3) := by decide +kernel
theorem dX7_leastAt_27 : decode cX7_leastAt 27 = .ok (.aload_n 0, 1) := by decide +kernel
theorem dX7_leastAt_28 : decode cX7_leastAt 28 = .ok (.aload_n 1, 1) := by decide +kernel
theorem dX7_leastAt_29 : decode cX7_leastAt 29 = .ok (.iload_n 2, 1) := by decide +kernel
theorem dX7_leastAt_30 : decode cX7_leastAt 30 = .ok (.iload_n 3, 1) := by decide +kernel
theorem dX7_leastAt_31 : decode cX7_leastAt 31 = .ok (.iload 4, 2) := by decide +kernel
theorem dX7_leastAt_33 : decode cX7_leastAt 33 = .ok (.iload 5, 2) := by decide +kernel
theorem dX7_leastAt_35 : decode cX7_leastAt 35 = .ok (.iload 8, 2) := by decide +kernel
theorem dX7_leastAt_37 : decode cX7_leastAt 37 = .ok (.invokevirtual 194, 3) := by decide +kernel
theorem dX7_leastAt_40 : decode cX7_leastAt 40 = .ok (.istore 9, 2) := by decide +kernel
theorem dX7_leastAt_42 : decode cX7_leastAt 42 = .ok (.iload 9, 2) := by decide +kernel
theorem dX7_leastAt_44 : decode cX7_leastAt 44 = .ok (.iload 7, 2) := by decide +kernel
theorem dX7_leastAt_46 : decode cX7_leastAt 46 = .ok (.if_icmp .ge 8, 3) := by decide +kernel
theorem dX7_leastAt_49 : decode cX7_leastAt 49 = .ok (.iload 9, 2) := by decide +kernel
theorem dX7_leastAt_51 : decode cX7_leastAt 51 = .ok (.goto 5, 3) := by decide +kernel
theorem dX7_leastAt_54 : decode cX7_leastAt 54 = .ok (.iload 7, 2) := by decide +kernel
theorem dX7_leastAt_56 : decode cX7_leastAt 56 = .ok (.istore 7, 2) := by decide +kernel
theorem dX7_leastAt_58 : decode cX7_leastAt 58 = .ok (.iinc 8 1, 3) := by decide +kernel
theorem dX7_leastAt_61 : decode cX7_leastAt 61 = .ok (.goto (-54), 3) := by decide +kernel
theorem dX7_leastAt_64 : decode cX7_leastAt 64 = .ok (.iload 7, 2) := by decide +kernel
theorem dX7_leastAt_66 : decode cX7_leastAt 66 = .ok (.ireturn, 1) := by decide +kernel
theorem dX7_laysBest_0 : decode cX7_laysBest 0 = .ok (.aload_n 1, 1) := by decide +kernel
theorem dX7_laysBest_1 : decode cX7_laysBest 1 = .ok (.iconst 0, 1) := by decide +kernel
theorem dX7_laysBest_2 : decode cX7_laysBest 2 = .ok (.iaload, 1) := by decide +kernel
theorem dX7_laysBest_3 : decode cX7_laysBest 3 = .ok (.iconst 1, 1) := by decide +kernel
theorem dX7_laysBest_4 : decode cX7_laysBest 4 = .ok (.isub, 1) := by decide +kernel
theorem dX7_laysBest_5 : decode cX7_laysBest 5 = .ok (.istore_n 3, 1) := by decide +kernel
theorem dX7_laysBest_6 : decode cX7_laysBest 6 = .ok (.iconst 0, 1) := by decide +kernel
theorem dX7_laysBest_7 : decode cX7_laysBest 7 = .ok (.istore 4, 2) := by decide +kernel
theorem dX7_laysBest_9 : decode cX7_laysBest 9 = .ok (.iload 4, 2) := by decide +kernel
theorem dX7_laysBest_11 : decode cX7_laysBest 11 = .ok (.iload_n 3, 1) := by decide +kernel
theorem dX7_laysBest_12 : decode cX7_laysBest 12 = .ok (.if_icmp .ge 92, 3) := by decide +kernel
theorem dX7_laysBest_15 : decode cX7_laysBest 15 = .ok (.iconst 0, 1) := by decide +kernel
theorem dX7_laysBest_16 : decode cX7_laysBest 16 = .ok (.istore 5, 2) := by decide +kernel
theorem dX7_laysBest_18 : decode cX7_laysBest 18 = .ok (.iload 5, 2) := by decide +kernel
theorem dX7_laysBest_20 : decode cX7_laysBest 20 = .ok (.bipush 9, 2) := by decide +kernel
theorem dX7_laysBest_22 : decode cX7_laysBest 22 = .ok (.iload_n 3, 1) := by decide +kernel
theorem dX7_laysBest_23 : decode cX7_laysBest 23 = .ok (.iload 4, 2) := by decide +kernel
theorem dX7_laysBest_25 : decode cX7_laysBest 25 = .ok (.isub, 1) := by decide +kernel
theorem dX7_laysBest_26 : decode cX7_laysBest 26 = .ok (.imul, 1) := by decide +kernel
theorem dX7_laysBest_27 : decode cX7_laysBest 27 = .ok (.if_icmp .gt 71, 3) := by decide +kernel
theorem dX7_laysBest_30 : decode cX7_laysBest 30 = .ok (.iconst 0, 1) := by decide +kernel
theorem dX7_laysBest_31 : decode cX7_laysBest 31 = .ok (.istore 6, 2) := by decide +kernel
theorem dX7_laysBest_33 : decode cX7_laysBest 33 = .ok (.iload 6, 2) := by decide +kernel
theorem dX7_laysBest_35 : decode cX7_laysBest 35 = .ok (.aload_n 1, 1) := by decide +kernel
theorem dX7_laysBest_36 : decode cX7_laysBest 36 = .ok (.iconst 5, 1) := by decide +kernel
theorem dX7_laysBest_37 : decode cX7_laysBest 37 = .ok (.iaload, 1) := by decide +kernel
theorem dX7_laysBest_38 : decode cX7_laysBest 38 = .ok (.if_icmp .ge 54, 3) := by decide +kernel
theorem dX7_laysBest_41 : decode cX7_laysBest 41 = .ok (.iconst 1, 1) := by decide +kernel
theorem dX7_laysBest_42 : decode cX7_laysBest 42 = .ok (.istore 7, 2) := by decide +kernel
theorem dX7_laysBest_44 : decode cX7_laysBest 44 = .ok (.iload 7, 2) := by decide +kernel
theorem dX7_laysBest_46 : decode cX7_laysBest 46 = .ok (.iconst 4, 1) := by decide +kernel
theorem dX7_laysBest_47 : decode cX7_laysBest 47 = .ok (.if_icmp .ge 39, 3) := by decide +kernel
theorem dX7_laysBest_50 : decode cX7_laysBest 50 = .ok (.aload_n 0, 1) := by decide +kernel
theorem dX7_laysBest_51 : decode cX7_laysBest 51 = .ok (.getfield 34, 3) := by decide +kernel
theorem dX7_laysBest_54 : decode cX7_laysBest 54 = .ok (.iload 4, 2) := by decide +kernel
theorem dX7_laysBest_56 : decode cX7_laysBest 56 = .ok (.iload 5, 2) := by decide +kernel
theorem dX7_laysBest_58 : decode cX7_laysBest 58 = .ok (.iload 6, 2) := by decide +kernel
theorem dX7_laysBest_60 : decode cX7_laysBest 60 = .ok (.iload 7, 2) := by decide +kernel
theorem dX7_laysBest_62 : decode cX7_laysBest 62 = .ok (.invokestatic 190, 3) := by decide +kernel
theorem dX7_laysBest_65 : decode cX7_laysBest 65 = .ok (.aload_n 0, 1) := by decide +kernel
theorem dX7_laysBest_66 : decode cX7_laysBest 66 = .ok (.aload_n 1, 1) := by decide +kernel
theorem dX7_laysBest_67 : decode cX7_laysBest 67 = .ok (.iload 4, 2) := by decide +kernel
theorem dX7_laysBest_69 : decode cX7_laysBest 69 = .ok (.iload 5, 2) := by decide +kernel
theorem dX7_laysBest_71 : decode cX7_laysBest 71 = .ok (.iload 6, 2) := by decide +kernel
theorem dX7_laysBest_73 : decode cX7_laysBest 73 = .ok (.iload 7, 2) := by decide +kernel
theorem dX7_laysBest_75 : decode cX7_laysBest 75 = .ok (.iload_n 2, 1) := by decide +kernel
theorem dX7_laysBest_76 : decode cX7_laysBest 76 = .ok (.invokevirtual 198, 3) := by decide +kernel
theorem dX7_laysBest_79 : decode cX7_laysBest 79 = .ok (.iastore, 1) := by decide +kernel
theorem dX7_laysBest_80 : decode cX7_laysBest 80 = .ok (.iinc 7 1, 3) := by decide +kernel
theorem dX7_laysBest_83 : decode cX7_laysBest 83 = .ok (.goto (-39), 3) := by decide +kernel
theorem dX7_laysBest_86 : decode cX7_laysBest 86 = .ok (.iinc 6 1, 3) := by decide +kernel
theorem dX7_laysBest_89 : decode cX7_laysBest 89 = .ok (.goto (-56), 3) := by decide +kernel
theorem dX7_laysBest_92 : decode cX7_laysBest 92 = .ok (.iinc 5 1, 3) := by decide +kernel
theorem dX7_laysBest_95 : decode cX7_laysBest 95 = .ok (.goto (-77), 3) := by decide +kernel
theorem dX7_laysBest_98 : decode cX7_laysBest 98 = .ok (.iinc 4 1, 3) := by decide +kernel
theorem dX7_laysBest_101 : decode cX7_laysBest 101 = .ok (.goto (-92), 3) := by decide +kernel
theorem dX7_laysBest_104 : decode cX7_laysBest 104 = .ok (.aload_n 0, 1) := by decide +kernel
theorem dX7_laysBest_105 : decode cX7_laysBest 105 = .ok (.aload_n 1, 1) := by decide +kernel
theorem dX7_laysBest_106 : decode cX7_laysBest 106 = .ok (.iload_n 3, 1) := by decide +kernel
theorem dX7_laysBest_107 : decode cX7_laysBest 107 = .ok (.iconst 0, 1) := by decide +kernel
theorem dX7_laysBest_108 : decode cX7_laysBest 108 = .ok (.iconst (-1), 1) := by decide +kernel
theorem dX7_laysBest_109 : decode cX7_laysBest 109 = .ok (.iconst 0, 1) := by decide +kernel
theorem dX7_laysBest_110 : decode cX7_laysBest 110 = .ok (.iload_n 2, 1) := by decide +kernel
theorem dX7_laysBest_111 : decode cX7_laysBest 111 = .ok (.invokevirtual 198, 3) := by decide +kernel
theorem dX7_laysBest_114 : decode cX7_laysBest 114 = .ok (.istore 4, 2) := by decide +kernel
theorem dX7_laysBest_116 : decode cX7_laysBest 116 = .ok (.iload 4, 2) := by decide +kernel
theorem dX7_laysBest_118 : decode cX7_laysBest 118 = .ok (.istore 5, 2) := by decide +kernel
theorem dX7_laysBest_120 : decode cX7_laysBest 120 = .ok (.iconst 0, 1) := by decide +kernel
theorem dX7_laysBest_121 : decode cX7_laysBest 121 = .ok (.istore 6, 2) := by decide +kernel
theorem dX7_laysBest_123 : decode cX7_laysBest 123 = .ok (.iconst (-1), 1) := by decide +kernel
theorem dX7_laysBest_124 : decode cX7_laysBest 124 = .ok (.istore 7, 2) := by decide +kernel
theorem dX7_laysBest_126 : decode cX7_laysBest 126 = .ok (.iconst 0, 1) := by decide +kernel
theorem dX7_laysBest_127 : decode cX7_laysBest 127 = .ok (.istore 8, 2) := by decide +kernel
theorem dX7_laysBest_129 : decode cX7_laysBest 129 = .ok (.iload_n 3, 1) := by decide +kernel
theorem dX7_laysBest_130 : decode cX7_laysBest 130 = .ok (.istore 9, 2) := by decide +kernel
theorem dX7_laysBest_132 : decode cX7_laysBest 132 = .ok (.iload 9, 2) := by decide +kernel
theorem dX7_laysBest_134 : decode cX7_laysBest 134 = .ok (.ifCond .lt 126, 3) := by decide +kernel
theorem dX7_laysBest_137 : decode cX7_laysBest 137 = .ok (.iload 4, 2) := by decide +kernel
theorem dX7_laysBest_139 : decode cX7_laysBest 139 = .ok (.ldc 189, 2) := by decide +kernel
theorem dX7_laysBest_141 : decode cX7_laysBest 141 = .ok (.if_icmp .ge 119, 3) := by decide +kernel
theorem dX7_laysBest_144 : decode cX7_laysBest 144 = .ok (.iconst 0, 1) := by decide +kernel
theorem dX7_laysBest_145 : decode cX7_laysBest 145 = .ok (.istore 10, 2) := by decide +kernel
theorem dX7_laysBest_147 : decode cX7_laysBest 147 = .ok (.iload 10, 2) := by decide +kernel
theorem dX7_laysBest_149 : decode cX7_laysBest 149 = .ok (.iload_n 2, 1) := by decide +kernel
theorem dX7_laysBest_150 : decode cX7_laysBest 150 = .ok (.if_icmp .eq 23, 3) := by decide +kernel
theorem dX7_laysBest_153 : decode cX7_laysBest 153 = .ok (.aload_n 0, 1) := by decide +kernel
theorem dX7_laysBest_154 : decode cX7_laysBest 154 = .ok (.aload_n 1, 1) := by decide +kernel
theorem dX7_laysBest_155 : decode cX7_laysBest 155 = .ok (.iload 9, 2) := by decide +kernel
theorem dX7_laysBest_157 : decode cX7_laysBest 157 = .ok (.iload 6, 2) := by decide +kernel
theorem dX7_laysBest_159 : decode cX7_laysBest 159 = .ok (.iload 7, 2) := by decide +kernel
theorem dX7_laysBest_161 : decode cX7_laysBest 161 = .ok (.iload 8, 2) := by decide +kernel
theorem dX7_laysBest_163 : decode cX7_laysBest 163 = .ok (.iload 10, 2) := by decide +kernel
theorem dX7_laysBest_165 : decode cX7_laysBest 165 = .ok (.invokevirtual 194, 3) := by decide +kernel
theorem dX7_laysBest_168 : decode cX7_laysBest 168 = .ok (.iload 5, 2) := by decide +kernel
theorem dX7_laysBest_170 : decode cX7_laysBest 170 = .ok (.if_icmp .eq 9, 3) := by decide +kernel
theorem dX7_laysBest_173 : decode cX7_laysBest 173 = .ok (.iinc 10 1, 3) := by decide +kernel
theorem dX7_laysBest_176 : decode cX7_laysBest 176 = .ok (.goto (-29), 3) := by decide +kernel
theorem dX7_laysBest_179 : decode cX7_laysBest 179 = .ok (.aload_n 0, 1) := by decide +kernel
theorem dX7_laysBest_180 : decode cX7_laysBest 180 = .ok (.getfield 37, 3) := by decide +kernel
theorem dX7_laysBest_183 : decode cX7_laysBest 183 = .ok (.iload 9, 2) := by decide +kernel
theorem dX7_laysBest_185 : decode cX7_laysBest 185 = .ok (.iload 10, 2) := by decide +kernel
theorem dX7_laysBest_187 : decode cX7_laysBest 187 = .ok (.iastore, 1) := by decide +kernel
theorem dX7_laysBest_188 : decode cX7_laysBest 188 = .ok (.iload 10, 2) := by decide +kernel
theorem dX7_laysBest_190 : decode cX7_laysBest 190 = .ok (.iload 7, 2) := by decide +kernel
theorem dX7_laysBest_192 : decode cX7_laysBest 192 = .ok (.if_icmp .eq 7, 3) := by decide +kernel
theorem dX7_laysBest_195 : decode cX7_laysBest 195 = .ok (.iconst 1, 1) := by decide +kernel
theorem dX7_laysBest_196 : decode cX7_laysBest 196 = .ok (.goto 17, 3) := by decide +kernel
theorem dX7_laysBest_199 : decode cX7_laysBest 199 = .ok (.iload 8, 2) := by decide +kernel
theorem dX7_laysBest_201 : decode cX7_laysBest 201 = .ok (.iconst 3, 1) := by decide +kernel
theorem dX7_laysBest_202 : decode cX7_laysBest 202 = .ok (.if_icmp .ge 10, 3) := by decide +kernel
theorem dX7_laysBest_205 : decode cX7_laysBest 205 = .ok (.iload 8, 2) := by decide +kernel
theorem dX7_laysBest_207 : decode cX7_laysBest 207 = .ok (.iconst 1, 1) := by decide +kernel
theorem dX7_laysBest_208 : decode cX7_laysBest 208 = .ok (.iadd, 1) := by decide +kernel
theorem dX7_laysBest_209 : decode cX7_laysBest 209 = .ok (.goto 4, 3) := by decide +kernel
theorem dX7_laysBest_212 : decode cX7_laysBest 212 = .ok (.iconst 3, 1) := by decide +kernel
theorem dX7_laysBest_213 : decode cX7_laysBest 213 = .ok (.istore 8, 2) := by decide +kernel
theorem dX7_laysBest_215 : decode cX7_laysBest 215 = .ok (.iload 10, 2) := by decide +kernel
theorem dX7_laysBest_217 : decode cX7_laysBest 217 = .ok (.istore 7, 2) := by decide +kernel
theorem dX7_laysBest_219 : decode cX7_laysBest 219 = .ok (.iload 6, 2) := by decide +kernel
theorem dX7_laysBest_221 : decode cX7_laysBest 221 = .ok (.aload_n 1, 1) := by decide +kernel
theorem dX7_laysBest_222 : decode cX7_laysBest 222 = .ok (.iload 10, 2) := by decide +kernel
theorem dX7_laysBest_224 : decode cX7_laysBest 224 = .ok (.iconst 4, 1) := by decide +kernel
theorem dX7_laysBest_225 : decode cX7_laysBest 225 = .ok (.invokestatic 155, 3) := by decide +kernel
theorem dX7_laysBest_228 : decode cX7_laysBest 228 = .ok (.iadd, 1) := by decide +kernel
theorem dX7_laysBest_229 : decode cX7_laysBest 229 = .ok (.istore 6, 2) := by decide +kernel
theorem dX7_laysBest_231 : decode cX7_laysBest 231 = .ok (.iload 5, 2) := by decide +kernel
theorem dX7_laysBest_233 : decode cX7_laysBest 233 = .ok (.bipush 100, 2) := by decide +kernel
theorem dX7_laysBest_235 : decode cX7_laysBest 235 = .ok (.aload_n 1, 1) := by decide +kernel
theorem dX7_laysBest_236 : decode cX7_laysBest 236 = .ok (.iload 10, 2) := by decide +kernel
theorem dX7_laysBest_238 : decode cX7_laysBest 238 = .ok (.iconst 5, 1) := by decide +kernel
theorem dX7_laysBest_239 : decode cX7_laysBest 239 = .ok (.invokestatic 155, 3) := by decide +kernel
theorem dX7_laysBest_242 : decode cX7_laysBest 242 = .ok (.imul, 1) := by decide +kernel
theorem dX7_laysBest_243 : decode cX7_laysBest 243 = .ok (.aload_n 1, 1) := by decide +kernel
theorem dX7_laysBest_244 : decode cX7_laysBest 244 = .ok (.iload 10, 2) := by decide +kernel
theorem dX7_laysBest_246 : decode cX7_laysBest 246 = .ok (.iconst 4, 1) := by decide +kernel
theorem dX7_laysBest_247 : decode cX7_laysBest 247 = .ok (.invokestatic 155, 3) := by decide +kernel
theorem dX7_laysBest_250 : decode cX7_laysBest 250 = .ok (.iadd, 1) := by decide +kernel
theorem dX7_laysBest_251 : decode cX7_laysBest 251 = .ok (.isub, 1) := by decide +kernel
theorem dX7_laysBest_252 : decode cX7_laysBest 252 = .ok (.istore 5, 2) := by decide +kernel
theorem dX7_laysBest_254 : decode cX7_laysBest 254 = .ok (.iinc 9 (-1), 3) := by decide +kernel
theorem dX7_laysBest_257 : decode cX7_laysBest 257 = .ok (.goto (-125), 3) := by decide +kernel
theorem dX7_laysBest_260 : decode cX7_laysBest 260 = .ok (.iload 4, 2) := by decide +kernel
theorem dX7_laysBest_262 : decode cX7_laysBest 262 = .ok (.ireturn, 1) := by decide +kernel
theorem dX7_keep_0 : decode cX7_keep 0 = .ok (.aload_n 0, 1) := by decide +kernel
theorem dX7_keep_1 : decode cX7_keep 1 = .ok (.getfield 152, 3) := by decide +kernel
theorem dX7_keep_4 : decode cX7_keep 4 = .ok (.bipush 24, 2) := by decide +kernel
theorem dX7_keep_6 : decode cX7_keep 6 = .ok (.if_icmp .ne 43, 3) := by decide +kernel
theorem dX7_keep_9 : decode cX7_keep 9 = .ok (.iconst 0, 1) := by decide +kernel
theorem dX7_keep_10 : decode cX7_keep 10 = .ok (.istore_n 1, 1) := by decide +kernel
theorem dX7_keep_11 : decode cX7_keep 11 = .ok (.iload_n 1, 1) := by decide +kernel
theorem dX7_keep_12 : decode cX7_keep 12 = .ok (.sipush 1012, 3) := by decide +kernel
theorem dX7_keep_15 : decode cX7_keep 15 = .ok (.if_icmp .ge 24, 3) := by decide +kernel
theorem dX7_keep_18 : decode cX7_keep 18 = .ok (.aload_n 0, 1) := by decide +kernel
theorem dX7_keep_19 : decode cX7_keep 19 = .ok (.getfield 28, 3) := by decide +kernel
theorem dX7_keep_22 : decode cX7_keep 22 = .ok (.iload_n 1, 1) := by decide +kernel
theorem dX7_keep_23 : decode cX7_keep 23 = .ok (.aload_n 0, 1) := by decide +kernel
theorem dX7_keep_24 : decode cX7_keep 24 = .ok (.getfield 28, 3) := by decide +kernel
theorem dX7_keep_27 : decode cX7_keep 27 = .ok (.iload_n 1, 1) := by decide +kernel
theorem dX7_keep_28 : decode cX7_keep 28 = .ok (.bipush 44, 2) := by decide +kernel
theorem dX7_keep_30 : decode cX7_keep 30 = .ok (.iadd, 1) := by decide +kernel
theorem dX7_keep_31 : decode cX7_keep 31 = .ok (.iaload, 1) := by decide +kernel
theorem dX7_keep_32 : decode cX7_keep 32 = .ok (.iastore, 1) := by decide +kernel
theorem dX7_keep_33 : decode cX7_keep 33 = .ok (.iinc 1 1, 3) := by decide +kernel
theorem dX7_keep_36 : decode cX7_keep 36 = .ok (.goto (-25), 3) := by decide +kernel
theorem dX7_keep_39 : decode cX7_keep 39 = .ok (.aload_n 0, 1) := by decide +kernel
theorem dX7_keep_40 : decode cX7_keep 40 = .ok (.dup, 1) := by decide +kernel
theorem dX7_keep_41 : decode cX7_keep 41 = .ok (.getfield 152, 3) := by decide +kernel
theorem dX7_keep_44 : decode cX7_keep 44 = .ok (.iconst 1, 1) := by decide +kernel
theorem dX7_keep_45 : decode cX7_keep 45 = .ok (.isub, 1) := by decide +kernel
theorem dX7_keep_46 : decode cX7_keep 46 = .ok (.putfield 152, 3) := by decide +kernel
theorem dX7_keep_49 : decode cX7_keep 49 = .ok (.iconst 0, 1) := by decide +kernel
theorem dX7_keep_50 : decode cX7_keep 50 = .ok (.istore_n 1, 1) := by decide +kernel
theorem dX7_keep_51 : decode cX7_keep 51 = .ok (.iload_n 1, 1) := by decide +kernel
theorem dX7_keep_52 : decode cX7_keep 52 = .ok (.bipush 44, 2) := by decide +kernel
theorem dX7_keep_54 : decode cX7_keep 54 = .ok (.if_icmp .ge 29, 3) := by decide +kernel
theorem dX7_keep_57 : decode cX7_keep 57 = .ok (.aload_n 0, 1) := by decide +kernel
theorem dX7_keep_58 : decode cX7_keep 58 = .ok (.getfield 28, 3) := by decide +kernel
theorem dX7_keep_61 : decode cX7_keep 61 = .ok (.bipush 44, 2) := by decide +kernel
theorem dX7_keep_63 : decode cX7_keep 63 = .ok (.aload_n 0, 1) := by decide +kernel
theorem dX7_keep_64 : decode cX7_keep 64 = .ok (.getfield 152, 3) := by decide +kernel
theorem dX7_keep_67 : decode cX7_keep 67 = .ok (.imul, 1) := by decide +kernel
theorem dX7_keep_68 : decode cX7_keep 68 = .ok (.iload_n 1, 1) := by decide +kernel
theorem dX7_keep_69 : decode cX7_keep 69 = .ok (.iadd, 1) := by decide +kernel
theorem dX7_keep_70 : decode cX7_keep 70 = .ok (.aload_n 0, 1) := by decide +kernel
theorem dX7_keep_71 : decode cX7_keep 71 = .ok (.getfield 19, 3) := by decide +kernel
theorem dX7_keep_74 : decode cX7_keep 74 = .ok (.iload_n 1, 1) := by decide +kernel
theorem dX7_keep_75 : decode cX7_keep 75 = .ok (.iaload, 1) := by decide +kernel
theorem dX7_keep_76 : decode cX7_keep 76 = .ok (.iastore, 1) := by decide +kernel
theorem dX7_keep_77 : decode cX7_keep 77 = .ok (.iinc 1 1, 3) := by decide +kernel
theorem dX7_keep_80 : decode cX7_keep 80 = .ok (.goto (-29), 3) := by decide +kernel
theorem dX7_keep_83 : decode cX7_keep 83 = .ok (.aload_n 0, 1) := by decide +kernel
theorem dX7_keep_84 : decode cX7_keep 84 = .ok (.dup, 1) := by decide +kernel
theorem dX7_keep_85 : decode cX7_keep 85 = .ok (.getfield 152, 3) := by decide +kernel
theorem dX7_keep_88 : decode cX7_keep 88 = .ok (.iconst 1, 1) := by decide +kernel
theorem dX7_keep_89 : decode cX7_keep 89 = .ok (.iadd, 1) := by decide +kernel
theorem dX7_keep_90 : decode cX7_keep 90 = .ok (.putfield 152, 3) := by decide +kernel
theorem dX7_keep_93 : decode cX7_keep 93 = .ok (.return_, 1) := by decide +kernel
theorem dX7_lay_0 : decode cX7_lay 0 = .ok (.aload_n 0, 1) := by decide +kernel
theorem dX7_lay_1 : decode cX7_lay 1 = .ok (.iconst 0, 1) := by decide +kernel
theorem dX7_lay_2 : decode cX7_lay 2 = .ok (.putfield 53, 3) := by decide +kernel
theorem dX7_lay_5 : decode cX7_lay 5 = .ok (.aload_n 0, 1) := by decide +kernel
theorem dX7_lay_6 : decode cX7_lay 6 = .ok (.iload_n 1, 1) := by decide +kernel
theorem dX7_lay_7 : decode cX7_lay 7 = .ok (.invokevirtual 201, 3) := by decide +kernel
theorem dX7_lay_10 : decode cX7_lay 10 = .ok (.ifCond .eq 16, 3) := by decide +kernel
theorem dX7_lay_13 : decode cX7_lay 13 = .ok (.iload_n 2, 1) := by decide +kernel
theorem dX7_lay_14 : decode cX7_lay 14 = .ok (.iconst (-1), 1) := by decide +kernel
theorem dX7_lay_15 : decode cX7_lay 15 = .ok (.if_icmp .eq 14, 3) := by decide +kernel
theorem dX7_lay_18 : decode cX7_lay 18 = .ok (.aload_n 0, 1) := by decide +kernel
theorem dX7_lay_19 : decode cX7_lay 19 = .ok (.iload_n 2, 1) := by decide +kernel
theorem dX7_lay_20 : decode cX7_lay 20 = .ok (.invokevirtual 204, 3) := by decide +kernel
theorem dX7_lay_23 : decode cX7_lay 23 = .ok (.ifCond .ne 6, 3) := by decide +kernel
theorem dX7_lay_26 : decode cX7_lay 26 = .ok (.ldc 73, 2) := by decide +kernel
theorem dX7_lay_28 : decode cX7_lay 28 = .ok (.ireturn, 1) := by decide +kernel
theorem dX7_lay_29 : decode cX7_lay 29 = .ok (.aload_n 0, 1) := by decide +kernel
theorem dX7_lay_30 : decode cX7_lay 30 = .ok (.getfield 19, 3) := by decide +kernel
theorem dX7_lay_33 : decode cX7_lay 33 = .ok (.bipush 36, 2) := by decide +kernel
theorem dX7_lay_35 : decode cX7_lay 35 = .ok (.iload_n 1, 1) := by decide +kernel
theorem dX7_lay_36 : decode cX7_lay 36 = .ok (.iadd, 1) := by decide +kernel
theorem dX7_lay_37 : decode cX7_lay 37 = .ok (.iaload, 1) := by decide +kernel
theorem dX7_lay_38 : decode cX7_lay 38 = .ok (.istore_n 3, 1) := by decide +kernel
theorem dX7_lay_39 : decode cX7_lay 39 = .ok (.iload_n 3, 1) := by decide +kernel
theorem dX7_lay_40 : decode cX7_lay 40 = .ok (.iload_n 2, 1) := by decide +kernel
theorem dX7_lay_41 : decode cX7_lay 41 = .ok (.if_icmp .ne 6, 3) := by decide +kernel
theorem dX7_lay_44 : decode cX7_lay 44 = .ok (.ldc 207, 2) := by decide +kernel
theorem dX7_lay_46 : decode cX7_lay 46 = .ok (.ireturn, 1) := by decide +kernel
theorem dX7_lay_47 : decode cX7_lay 47 = .ok (.aload_n 0, 1) := by decide +kernel
theorem dX7_lay_48 : decode cX7_lay 48 = .ok (.invokevirtual 208, 3) := by decide +kernel
theorem dX7_lay_51 : decode cX7_lay 51 = .ok (.aload_n 0, 1) := by decide +kernel
theorem dX7_lay_52 : decode cX7_lay 52 = .ok (.getfield 19, 3) := by decide +kernel
theorem dX7_lay_55 : decode cX7_lay 55 = .ok (.bipush 36, 2) := by decide +kernel
theorem dX7_lay_57 : decode cX7_lay 57 = .ok (.iload_n 1, 1) := by decide +kernel
theorem dX7_lay_58 : decode cX7_lay 58 = .ok (.iadd, 1) := by decide +kernel
theorem dX7_lay_59 : decode cX7_lay 59 = .ok (.iload_n 2, 1) := by decide +kernel
theorem dX7_lay_60 : decode cX7_lay 60 = .ok (.iastore, 1) := by decide +kernel
theorem dX7_lay_61 : decode cX7_lay 61 = .ok (.iload_n 3, 1) := by decide +kernel
theorem dX7_lay_62 : decode cX7_lay 62 = .ok (.ireturn, 1) := by decide +kernel
theorem dX7_layBest_0 : decode cX7_layBest 0 = .ok (.aload_n 0, 1) := by decide +kernel
theorem dX7_layBest_1 : decode cX7_layBest 1 = .ok (.iconst 0, 1) := by decide +kernel
theorem dX7_layBest_2 : decode cX7_layBest 2 = .ok (.putfield 53, 3) := by decide +kernel
theorem dX7_layBest_5 : decode cX7_layBest 5 = .ok (.aload_n 0, 1) := by decide +kernel
theorem dX7_layBest_6 : decode cX7_layBest 6 = .ok (.invokevirtual 211, 3) := by decide +kernel
theorem dX7_layBest_9 : decode cX7_layBest 9 = .ok (.ifCond .ne 6, 3) := by decide +kernel
theorem dX7_layBest_12 : decode cX7_layBest 12 = .ok (.ldc 207, 2) := by decide +kernel
theorem dX7_layBest_14 : decode cX7_layBest 14 = .ok (.ireturn, 1) := by decide +kernel
theorem dX7_layBest_15 : decode cX7_layBest 15 = .ok (.aload_n 0, 1) := by decide +kernel
theorem dX7_layBest_16 : decode cX7_layBest 16 = .ok (.aload_n 0, 1) := by decide +kernel
theorem dX7_layBest_17 : decode cX7_layBest 17 = .ok (.getfield 19, 3) := by decide +kernel
theorem dX7_layBest_20 : decode cX7_layBest 20 = .ok (.iconst (-1), 1) := by decide +kernel
theorem dX7_layBest_21 : decode cX7_layBest 21 = .ok (.invokevirtual 214, 3) := by decide +kernel
theorem dX7_layBest_24 : decode cX7_layBest 24 = .ok (.ldc 189, 2) := by decide +kernel
theorem dX7_layBest_26 : decode cX7_layBest 26 = .ok (.if_icmp .ne 6, 3) := by decide +kernel
theorem dX7_layBest_29 : decode cX7_layBest 29 = .ok (.ldc 96, 2) := by decide +kernel
theorem dX7_layBest_31 : decode cX7_layBest 31 = .ok (.ireturn, 1) := by decide +kernel
theorem dX7_layBest_32 : decode cX7_layBest 32 = .ok (.aload_n 0, 1) := by decide +kernel
theorem dX7_layBest_33 : decode cX7_layBest 33 = .ok (.invokevirtual 208, 3) := by decide +kernel
theorem dX7_layBest_36 : decode cX7_layBest 36 = .ok (.iconst 0, 1) := by decide +kernel
theorem dX7_layBest_37 : decode cX7_layBest 37 = .ok (.istore_n 1, 1) := by decide +kernel
theorem dX7_layBest_38 : decode cX7_layBest 38 = .ok (.iload_n 1, 1) := by decide +kernel
theorem dX7_layBest_39 : decode cX7_layBest 39 = .ok (.aload_n 0, 1) := by decide +kernel
theorem dX7_layBest_40 : decode cX7_layBest 40 = .ok (.getfield 19, 3) := by decide +kernel
theorem dX7_layBest_43 : decode cX7_layBest 43 = .ok (.iconst 0, 1) := by decide +kernel
theorem dX7_layBest_44 : decode cX7_layBest 44 = .ok (.iaload, 1) := by decide +kernel
theorem dX7_layBest_45 : decode cX7_layBest 45 = .ok (.if_icmp .ge 24, 3) := by decide +kernel
theorem dX7_layBest_48 : decode cX7_layBest 48 = .ok (.aload_n 0, 1) := by decide +kernel
theorem dX7_layBest_49 : decode cX7_layBest 49 = .ok (.getfield 19, 3) := by decide +kernel
theorem dX7_layBest_52 : decode cX7_layBest 52 = .ok (.bipush 36, 2) := by decide +kernel
theorem dX7_layBest_54 : decode cX7_layBest 54 = .ok (.iload_n 1, 1) := by decide +kernel
theorem dX7_layBest_55 : decode cX7_layBest 55 = .ok (.iadd, 1) := by decide +kernel
theorem dX7_layBest_56 : decode cX7_layBest 56 = .ok (.aload_n 0, 1) := by decide +kernel
theorem dX7_layBest_57 : decode cX7_layBest 57 = .ok (.getfield 37, 3) := by decide +kernel
theorem dX7_layBest_60 : decode cX7_layBest 60 = .ok (.iload_n 1, 1) := by decide +kernel
theorem dX7_layBest_61 : decode cX7_layBest 61 = .ok (.iaload, 1) := by decide +kernel
theorem dX7_layBest_62 : decode cX7_layBest 62 = .ok (.iastore, 1) := by decide +kernel
theorem dX7_layBest_63 : decode cX7_layBest 63 = .ok (.iinc 1 1, 3) := by decide +kernel
theorem dX7_layBest_66 : decode cX7_layBest 66 = .ok (.goto (-28), 3) := by decide +kernel
theorem dX7_layBest_69 : decode cX7_layBest 69 = .ok (.aload_n 0, 1) := by decide +kernel
theorem dX7_layBest_70 : decode cX7_layBest 70 = .ok (.getfield 19, 3) := by decide +kernel
theorem dX7_layBest_73 : decode cX7_layBest 73 = .ok (.invokestatic 217, 3) := by decide +kernel
theorem dX7_layBest_76 : decode cX7_layBest 76 = .ok (.ireturn, 1) := by decide +kernel
theorem dX7_rule_0 : decode cX7_rule 0 = .ok (.aload_n 0, 1) := by decide +kernel
theorem dX7_rule_1 : decode cX7_rule 1 = .ok (.iconst 0, 1) := by decide +kernel
theorem dX7_rule_2 : decode cX7_rule 2 = .ok (.putfield 53, 3) := by decide +kernel
theorem dX7_rule_5 : decode cX7_rule 5 = .ok (.aload_n 0, 1) := by decide +kernel
theorem dX7_rule_6 : decode cX7_rule 6 = .ok (.invokevirtual 211, 3) := by decide +kernel
theorem dX7_rule_9 : decode cX7_rule 9 = .ok (.ifCond .ne 6, 3) := by decide +kernel
theorem dX7_rule_12 : decode cX7_rule 12 = .ok (.ldc 207, 2) := by decide +kernel
theorem dX7_rule_14 : decode cX7_rule 14 = .ok (.ireturn, 1) := by decide +kernel
theorem dX7_rule_15 : decode cX7_rule 15 = .ok (.iload_n 1, 1) := by decide +kernel
theorem dX7_rule_16 : decode cX7_rule 16 = .ok (.ifCond .ne 15, 3) := by decide +kernel
theorem dX7_rule_19 : decode cX7_rule 19 = .ok (.iload_n 2, 1) := by decide +kernel
theorem dX7_rule_20 : decode cX7_rule 20 = .ok (.i2l, 1) := by decide +kernel
theorem dX7_rule_21 : decode cX7_rule 21 = .ok (.lconst 0, 1) := by decide +kernel
theorem dX7_rule_22 : decode cX7_rule 22 = .ok (.ldc2_w 221, 3) := by decide +kernel
theorem dX7_rule_25 : decode cX7_rule 25 = .ok (.invokestatic 63, 3) := by decide +kernel
theorem dX7_rule_28 : decode cX7_rule 28 = .ok (.ifCond .ne 54, 3) := by decide +kernel
theorem dX7_rule_31 : decode cX7_rule 31 = .ok (.iload_n 1, 1) := by decide +kernel
theorem dX7_rule_32 : decode cX7_rule 32 = .ok (.iconst 1, 1) := by decide +kernel
theorem dX7_rule_33 : decode cX7_rule 33 = .ok (.if_icmp .ne 15, 3) := by decide +kernel
theorem dX7_rule_36 : decode cX7_rule 36 = .ok (.iload_n 2, 1) := by decide +kernel
theorem dX7_rule_37 : decode cX7_rule 37 = .ok (.i2l, 1) := by decide +kernel
theorem dX7_rule_38 : decode cX7_rule 38 = .ok (.lconst 0, 1) := by decide +kernel
theorem dX7_rule_39 : decode cX7_rule 39 = .ok (.ldc2_w 223, 3) := by decide +kernel
theorem dX7_rule_42 : decode cX7_rule 42 = .ok (.invokestatic 63, 3) := by decide +kernel
theorem dX7_rule_45 : decode cX7_rule 45 = .ok (.ifCond .ne 37, 3) := by decide +kernel
theorem dX7_rule_48 : decode cX7_rule 48 = .ok (.iload_n 1, 1) := by decide +kernel
theorem dX7_rule_49 : decode cX7_rule 49 = .ok (.iconst 2, 1) := by decide +kernel
theorem dX7_rule_50 : decode cX7_rule 50 = .ok (.if_icmp .ne 15, 3) := by decide +kernel
theorem dX7_rule_53 : decode cX7_rule 53 = .ok (.iload_n 2, 1) := by decide +kernel
theorem dX7_rule_54 : decode cX7_rule 54 = .ok (.i2l, 1) := by decide +kernel
theorem dX7_rule_55 : decode cX7_rule 55 = .ok (.lconst 0, 1) := by decide +kernel
theorem dX7_rule_56 : decode cX7_rule 56 = .ok (.ldc2_w 221, 3) := by decide +kernel
theorem dX7_rule_59 : decode cX7_rule 59 = .ok (.invokestatic 63, 3) := by decide +kernel
theorem dX7_rule_62 : decode cX7_rule 62 = .ok (.ifCond .ne 20, 3) := by decide +kernel
theorem dX7_rule_65 : decode cX7_rule 65 = .ok (.iload_n 1, 1) := by decide +kernel
theorem dX7_rule_66 : decode cX7_rule 66 = .ok (.iconst 3, 1) := by decide +kernel
theorem dX7_rule_67 : decode cX7_rule 67 = .ok (.if_icmp .ne 19, 3) := by decide +kernel
theorem dX7_rule_70 : decode cX7_rule 70 = .ok (.iload_n 2, 1) := by decide +kernel
theorem dX7_rule_71 : decode cX7_rule 71 = .ok (.i2l, 1) := by decide +kernel
theorem dX7_rule_72 : decode cX7_rule 72 = .ok (.lconst 1, 1) := by decide +kernel
theorem dX7_rule_73 : decode cX7_rule 73 = .ok (.ldc2_w 225, 3) := by decide +kernel
theorem dX7_rule_76 : decode cX7_rule 76 = .ok (.invokestatic 63, 3) := by decide +kernel
theorem dX7_rule_79 : decode cX7_rule 79 = .ok (.ifCond .eq 7, 3) := by decide +kernel
theorem dX7_rule_82 : decode cX7_rule 82 = .ok (.iconst 1, 1) := by decide +kernel
theorem dX7_rule_83 : decode cX7_rule 83 = .ok (.goto 4, 3) := by decide +kernel
theorem dX7_rule_86 : decode cX7_rule 86 = .ok (.iconst 0, 1) := by decide +kernel
theorem dX7_rule_87 : decode cX7_rule 87 = .ok (.istore_n 3, 1) := by decide +kernel
theorem dX7_rule_88 : decode cX7_rule 88 = .ok (.iload_n 3, 1) := by decide +kernel
theorem dX7_rule_89 : decode cX7_rule 89 = .ok (.ifCond .ne 6, 3) := by decide +kernel
theorem dX7_rule_92 : decode cX7_rule 92 = .ok (.ldc 73, 2) := by decide +kernel
theorem dX7_rule_94 : decode cX7_rule 94 = .ok (.ireturn, 1) := by decide +kernel
theorem dX7_rule_95 : decode cX7_rule 95 = .ok (.iload_n 1, 1) := by decide +kernel
theorem dX7_rule_96 : decode cX7_rule 96 = .ok (.iconst 3, 1) := by decide +kernel
theorem dX7_rule_97 : decode cX7_rule 97 = .ok (.if_icmp .ne 7, 3) := by decide +kernel
theorem dX7_rule_100 : decode cX7_rule 100 = .ok (.iconst 1, 1) := by decide +kernel
theorem dX7_rule_101 : decode cX7_rule 101 = .ok (.goto 6, 3) := by decide +kernel
theorem dX7_rule_104 : decode cX7_rule 104 = .ok (.iconst 2, 1) := by decide +kernel
theorem dX7_rule_105 : decode cX7_rule 105 = .ok (.iload_n 1, 1) := by decide +kernel
theorem dX7_rule_106 : decode cX7_rule 106 = .ok (.iadd, 1) := by decide +kernel
theorem dX7_rule_107 : decode cX7_rule 107 = .ok (.istore 4, 2) := by decide +kernel
theorem dX7_rule_109 : decode cX7_rule 109 = .ok (.aload_n 0, 1) := by decide +kernel
theorem dX7_rule_110 : decode cX7_rule 110 = .ok (.invokevirtual 208, 3) := by decide +kernel
theorem dX7_rule_113 : decode cX7_rule 113 = .ok (.aload_n 0, 1) := by decide +kernel
theorem dX7_rule_114 : decode cX7_rule 114 = .ok (.getfield 19, 3) := by decide +kernel
theorem dX7_rule_117 : decode cX7_rule 117 = .ok (.iload 4, 2) := by decide +kernel
theorem dX7_rule_119 : decode cX7_rule 119 = .ok (.iaload, 1) := by decide +kernel
theorem dX7_rule_120 : decode cX7_rule 120 = .ok (.istore 5, 2) := by decide +kernel
theorem dX7_rule_122 : decode cX7_rule 122 = .ok (.aload_n 0, 1) := by decide +kernel
theorem dX7_rule_123 : decode cX7_rule 123 = .ok (.getfield 19, 3) := by decide +kernel
theorem dX7_rule_126 : decode cX7_rule 126 = .ok (.iload 4, 2) := by decide +kernel
theorem dX7_rule_128 : decode cX7_rule 128 = .ok (.iload_n 2, 1) := by decide +kernel
theorem dX7_rule_129 : decode cX7_rule 129 = .ok (.iastore, 1) := by decide +kernel
theorem dX7_rule_130 : decode cX7_rule 130 = .ok (.iload 5, 2) := by decide +kernel
theorem dX7_rule_132 : decode cX7_rule 132 = .ok (.ireturn, 1) := by decide +kernel
theorem dX7_price_0 : decode cX7_price 0 = .ok (.aload_n 0, 1) := by decide +kernel
theorem dX7_price_1 : decode cX7_price 1 = .ok (.iconst 0, 1) := by decide +kernel
theorem dX7_price_2 : decode cX7_price 2 = .ok (.putfield 53, 3) := by decide +kernel
theorem dX7_price_5 : decode cX7_price 5 = .ok (.aload_n 0, 1) := by decide +kernel
theorem dX7_price_6 : decode cX7_price 6 = .ok (.iload_n 1, 1) := by decide +kernel
theorem dX7_price_7 : decode cX7_price 7 = .ok (.invokevirtual 204, 3) := by decide +kernel
theorem dX7_price_10 : decode cX7_price 10 = .ok (.ifCond .eq 15, 3) := by decide +kernel
theorem dX7_price_13 : decode cX7_price 13 = .ok (.iload_n 2, 1) := by decide +kernel
theorem dX7_price_14 : decode cX7_price 14 = .ok (.i2l, 1) := by decide +kernel
theorem dX7_price_15 : decode cX7_price 15 = .ok (.lconst 1, 1) := by decide +kernel
theorem dX7_price_16 : decode cX7_price 16 = .ok (.ldc2_w 223, 3) := by decide +kernel
theorem dX7_price_19 : decode cX7_price 19 = .ok (.invokestatic 63, 3) := by decide +kernel
theorem dX7_price_22 : decode cX7_price 22 = .ok (.ifCond .ne 6, 3) := by decide +kernel
theorem dX7_price_25 : decode cX7_price 25 = .ok (.ldc 73, 2) := by decide +kernel
theorem dX7_price_27 : decode cX7_price 27 = .ok (.ireturn, 1) := by decide +kernel
theorem dX7_price_28 : decode cX7_price 28 = .ok (.aload_n 0, 1) := by decide +kernel
theorem dX7_price_29 : decode cX7_price 29 = .ok (.invokevirtual 208, 3) := by decide +kernel
theorem dX7_price_32 : decode cX7_price 32 = .ok (.aload_n 0, 1) := by decide +kernel
theorem dX7_price_33 : decode cX7_price 33 = .ok (.getfield 19, 3) := by decide +kernel
theorem dX7_price_36 : decode cX7_price 36 = .ok (.iload_n 1, 1) := by decide +kernel
theorem dX7_price_37 : decode cX7_price 37 = .ok (.iconst 5, 1) := by decide +kernel
theorem dX7_price_38 : decode cX7_price 38 = .ok (.invokestatic 155, 3) := by decide +kernel
theorem dX7_price_41 : decode cX7_price 41 = .ok (.istore_n 3, 1) := by decide +kernel
theorem dX7_price_42 : decode cX7_price 42 = .ok (.aload_n 0, 1) := by decide +kernel
theorem dX7_price_43 : decode cX7_price 43 = .ok (.getfield 19, 3) := by decide +kernel
theorem dX7_price_46 : decode cX7_price 46 = .ok (.bipush 6, 2) := by decide +kernel
theorem dX7_price_48 : decode cX7_price 48 = .ok (.bipush 6, 2) := by decide +kernel
theorem dX7_price_50 : decode cX7_price 50 = .ok (.iload_n 1, 1) := by decide +kernel
theorem dX7_price_51 : decode cX7_price 51 = .ok (.imul, 1) := by decide +kernel
theorem dX7_price_52 : decode cX7_price 52 = .ok (.iadd, 1) := by decide +kernel
theorem dX7_price_53 : decode cX7_price 53 = .ok (.iconst 5, 1) := by decide +kernel
theorem dX7_price_54 : decode cX7_price 54 = .ok (.iadd, 1) := by decide +kernel
theorem dX7_price_55 : decode cX7_price 55 = .ok (.iload_n 2, 1) := by decide +kernel
theorem dX7_price_56 : decode cX7_price 56 = .ok (.iastore, 1) := by decide +kernel
theorem dX7_price_57 : decode cX7_price 57 = .ok (.iload_n 3, 1) := by decide +kernel
theorem dX7_price_58 : decode cX7_price 58 = .ok (.ireturn, 1) := by decide +kernel
theorem dX7_undo_0 : decode cX7_undo 0 = .ok (.aload_n 0, 1) := by decide +kernel
theorem dX7_undo_1 : decode cX7_undo 1 = .ok (.iconst 0, 1) := by decide +kernel
theorem dX7_undo_2 : decode cX7_undo 2 = .ok (.putfield 53, 3) := by decide +kernel
theorem dX7_undo_5 : decode cX7_undo 5 = .ok (.aload_n 0, 1) := by decide +kernel
theorem dX7_undo_6 : decode cX7_undo 6 = .ok (.getfield 152, 3) := by decide +kernel
theorem dX7_undo_9 : decode cX7_undo 9 = .ok (.ifCond .ne 6, 3) := by decide +kernel
theorem dX7_undo_12 : decode cX7_undo 12 = .ok (.ldc 207, 2) := by decide +kernel
theorem dX7_undo_14 : decode cX7_undo 14 = .ok (.ireturn, 1) := by decide +kernel
theorem dX7_undo_15 : decode cX7_undo 15 = .ok (.aload_n 0, 1) := by decide +kernel
theorem dX7_undo_16 : decode cX7_undo 16 = .ok (.dup, 1) := by decide +kernel
theorem dX7_undo_17 : decode cX7_undo 17 = .ok (.getfield 152, 3) := by decide +kernel
theorem dX7_undo_20 : decode cX7_undo 20 = .ok (.iconst 1, 1) := by decide +kernel
theorem dX7_undo_21 : decode cX7_undo 21 = .ok (.isub, 1) := by decide +kernel
theorem dX7_undo_22 : decode cX7_undo 22 = .ok (.putfield 152, 3) := by decide +kernel
theorem dX7_undo_25 : decode cX7_undo 25 = .ok (.iconst 0, 1) := by decide +kernel
theorem dX7_undo_26 : decode cX7_undo 26 = .ok (.istore_n 1, 1) := by decide +kernel
theorem dX7_undo_27 : decode cX7_undo 27 = .ok (.iload_n 1, 1) := by decide +kernel
theorem dX7_undo_28 : decode cX7_undo 28 = .ok (.bipush 44, 2) := by decide +kernel
theorem dX7_undo_30 : decode cX7_undo 30 = .ok (.if_icmp .ge 29, 3) := by decide +kernel
theorem dX7_undo_33 : decode cX7_undo 33 = .ok (.aload_n 0, 1) := by decide +kernel
theorem dX7_undo_34 : decode cX7_undo 34 = .ok (.getfield 19, 3) := by decide +kernel
theorem dX7_undo_37 : decode cX7_undo 37 = .ok (.iload_n 1, 1) := by decide +kernel
theorem dX7_undo_38 : decode cX7_undo 38 = .ok (.aload_n 0, 1) := by decide +kernel
theorem dX7_undo_39 : decode cX7_undo 39 = .ok (.getfield 28, 3) := by decide +kernel
theorem dX7_undo_42 : decode cX7_undo 42 = .ok (.bipush 44, 2) := by decide +kernel
theorem dX7_undo_44 : decode cX7_undo 44 = .ok (.aload_n 0, 1) := by decide +kernel
theorem dX7_undo_45 : decode cX7_undo 45 = .ok (.getfield 152, 3) := by decide +kernel
theorem dX7_undo_48 : decode cX7_undo 48 = .ok (.imul, 1) := by decide +kernel
theorem dX7_undo_49 : decode cX7_undo 49 = .ok (.iload_n 1, 1) := by decide +kernel
theorem dX7_undo_50 : decode cX7_undo 50 = .ok (.iadd, 1) := by decide +kernel
theorem dX7_undo_51 : decode cX7_undo 51 = .ok (.iaload, 1) := by decide +kernel
theorem dX7_undo_52 : decode cX7_undo 52 = .ok (.iastore, 1) := by decide +kernel
theorem dX7_undo_53 : decode cX7_undo 53 = .ok (.iinc 1 1, 3) := by decide +kernel
theorem dX7_undo_56 : decode cX7_undo 56 = .ok (.goto (-29), 3) := by decide +kernel
theorem dX7_undo_59 : decode cX7_undo 59 = .ok (.aload_n 0, 1) := by decide +kernel
theorem dX7_undo_60 : decode cX7_undo 60 = .ok (.getfield 152, 3) := by decide +kernel
theorem dX7_undo_63 : decode cX7_undo 63 = .ok (.ireturn, 1) := by decide +kernel
theorem dX7_grade_0 : decode cX7_grade 0 = .ok (.aload_n 0, 1) := by decide +kernel
theorem dX7_grade_1 : decode cX7_grade 1 = .ok (.iconst 0, 1) := by decide +kernel
theorem dX7_grade_2 : decode cX7_grade 2 = .ok (.putfield 53, 3) := by decide +kernel
theorem dX7_grade_5 : decode cX7_grade 5 = .ok (.aload_n 0, 1) := by decide +kernel
theorem dX7_grade_6 : decode cX7_grade 6 = .ok (.iload_n 1, 1) := by decide +kernel
theorem dX7_grade_7 : decode cX7_grade 7 = .ok (.invokevirtual 204, 3) := by decide +kernel
theorem dX7_grade_10 : decode cX7_grade 10 = .ok (.ifCond .eq 29, 3) := by decide +kernel
theorem dX7_grade_13 : decode cX7_grade 13 = .ok (.iload_n 2, 1) := by decide +kernel
theorem dX7_grade_14 : decode cX7_grade 14 = .ok (.i2l, 1) := by decide +kernel
theorem dX7_grade_15 : decode cX7_grade 15 = .ok (.lconst 0, 1) := by decide +kernel
theorem dX7_grade_16 : decode cX7_grade 16 = .ok (.ldc2_w 227, 3) := by decide +kernel
theorem dX7_grade_19 : decode cX7_grade 19 = .ok (.invokestatic 63, 3) := by decide +kernel
theorem dX7_grade_22 : decode cX7_grade 22 = .ok (.ifCond .eq 17, 3) := by decide +kernel
theorem dX7_grade_25 : decode cX7_grade 25 = .ok (.aload_n 0, 1) := by decide +kernel
theorem dX7_grade_26 : decode cX7_grade 26 = .ok (.getfield 19, 3) := by decide +kernel
theorem dX7_grade_29 : decode cX7_grade 29 = .ok (.iload_n 1, 1) := by decide +kernel
theorem dX7_grade_30 : decode cX7_grade 30 = .ok (.iconst 1, 1) := by decide +kernel
theorem dX7_grade_31 : decode cX7_grade 31 = .ok (.iload_n 2, 1) := by decide +kernel
theorem dX7_grade_32 : decode cX7_grade 32 = .ok (.iadd, 1) := by decide +kernel
theorem dX7_grade_33 : decode cX7_grade 33 = .ok (.invokestatic 155, 3) := by decide +kernel
theorem dX7_grade_36 : decode cX7_grade 36 = .ok (.goto 5, 3) := by decide +kernel
theorem dX7_grade_39 : decode cX7_grade 39 = .ok (.ldc 73, 2) := by decide +kernel
theorem dX7_grade_41 : decode cX7_grade 41 = .ok (.ireturn, 1) := by decide +kernel
theorem dX7_step_0 : decode cX7_step 0 = .ok (.aload_n 0, 1) := by decide +kernel
theorem dX7_step_1 : decode cX7_step 1 = .ok (.iconst 0, 1) := by decide +kernel
theorem dX7_step_2 : decode cX7_step 2 = .ok (.putfield 53, 3) := by decide +kernel
theorem dX7_step_5 : decode cX7_step 5 = .ok (.aload_n 0, 1) := by decide +kernel
theorem dX7_step_6 : decode cX7_step 6 = .ok (.iload_n 1, 1) := by decide +kernel
theorem dX7_step_7 : decode cX7_step 7 = .ok (.invokevirtual 201, 3) := by decide +kernel
theorem dX7_step_10 : decode cX7_step 10 = .ok (.ifCond .ne 6, 3) := by decide +kernel
theorem dX7_step_13 : decode cX7_step 13 = .ok (.ldc 73, 2) := by decide +kernel
theorem dX7_step_15 : decode cX7_step 15 = .ok (.ireturn, 1) := by decide +kernel
theorem dX7_step_16 : decode cX7_step 16 = .ok (.iload_n 2, 1) := by decide +kernel
theorem dX7_step_17 : decode cX7_step 17 = .ok (.tableswitch 118 0 5 #[39, 49, 58, 67, 92, 109], 39) := by decide +kernel
theorem dX7_step_56 : decode cX7_step 56 = .ok (.aload_n 0, 1) := by decide +kernel
theorem dX7_step_57 : decode cX7_step 57 = .ok (.getfield 19, 3) := by decide +kernel
theorem dX7_step_60 : decode cX7_step 60 = .ok (.bipush 36, 2) := by decide +kernel
theorem dX7_step_62 : decode cX7_step 62 = .ok (.iload_n 1, 1) := by decide +kernel
theorem dX7_step_63 : decode cX7_step 63 = .ok (.iadd, 1) := by decide +kernel
theorem dX7_step_64 : decode cX7_step 64 = .ok (.iaload, 1) := by decide +kernel
theorem dX7_step_65 : decode cX7_step 65 = .ok (.ireturn, 1) := by decide +kernel
theorem dX7_step_66 : decode cX7_step 66 = .ok (.aload_n 0, 1) := by decide +kernel
theorem dX7_step_67 : decode cX7_step 67 = .ok (.getfield 19, 3) := by decide +kernel
theorem dX7_step_70 : decode cX7_step 70 = .ok (.iload_n 1, 1) := by decide +kernel
theorem dX7_step_71 : decode cX7_step 71 = .ok (.invokestatic 166, 3) := by decide +kernel
theorem dX7_step_74 : decode cX7_step 74 = .ok (.ireturn, 1) := by decide +kernel
theorem dX7_step_75 : decode cX7_step 75 = .ok (.aload_n 0, 1) := by decide +kernel
theorem dX7_step_76 : decode cX7_step 76 = .ok (.getfield 19, 3) := by decide +kernel
theorem dX7_step_79 : decode cX7_step 79 = .ok (.iload_n 1, 1) := by decide +kernel
theorem dX7_step_80 : decode cX7_step 80 = .ok (.invokestatic 172, 3) := by decide +kernel
theorem dX7_step_83 : decode cX7_step 83 = .ok (.ireturn, 1) := by decide +kernel
theorem dX7_step_84 : decode cX7_step 84 = .ok (.aload_n 0, 1) := by decide +kernel
theorem dX7_step_85 : decode cX7_step 85 = .ok (.getfield 19, 3) := by decide +kernel
theorem dX7_step_88 : decode cX7_step 88 = .ok (.bipush 36, 2) := by decide +kernel
theorem dX7_step_90 : decode cX7_step 90 = .ok (.iload_n 1, 1) := by decide +kernel
theorem dX7_step_91 : decode cX7_step 91 = .ok (.iadd, 1) := by decide +kernel
theorem dX7_step_92 : decode cX7_step 92 = .ok (.iaload, 1) := by decide +kernel
theorem dX7_step_93 : decode cX7_step 93 = .ok (.ifCond .ge 7, 3) := by decide +kernel
theorem dX7_step_96 : decode cX7_step 96 = .ok (.iconst 0, 1) := by decide +kernel
theorem dX7_step_97 : decode cX7_step 97 = .ok (.goto 11, 3) := by decide +kernel
theorem dX7_step_100 : decode cX7_step 100 = .ok (.aload_n 0, 1) := by decide +kernel
theorem dX7_step_101 : decode cX7_step 101 = .ok (.getfield 19, 3) := by decide +kernel
theorem dX7_step_104 : decode cX7_step 104 = .ok (.iload_n 1, 1) := by decide +kernel
theorem dX7_step_105 : decode cX7_step 105 = .ok (.invokestatic 175, 3) := by decide +kernel
theorem dX7_step_108 : decode cX7_step 108 = .ok (.ireturn, 1) := by decide +kernel
theorem dX7_step_109 : decode cX7_step 109 = .ok (.aload_n 0, 1) := by decide +kernel
theorem dX7_step_110 : decode cX7_step 110 = .ok (.getfield 19, 3) := by decide +kernel
theorem dX7_step_113 : decode cX7_step 113 = .ok (.iload_n 1, 1) := by decide +kernel
theorem dX7_step_114 : decode cX7_step 114 = .ok (.invokestatic 182, 3) := by decide +kernel
theorem dX7_step_117 : decode cX7_step 117 = .ok (.ifCond .eq 7, 3) := by decide +kernel
theorem dX7_step_120 : decode cX7_step 120 = .ok (.iconst 1, 1) := by decide +kernel
theorem dX7_step_121 : decode cX7_step 121 = .ok (.goto 4, 3) := by decide +kernel
theorem dX7_step_124 : decode cX7_step 124 = .ok (.iconst 0, 1) := by decide +kernel
theorem dX7_step_125 : decode cX7_step 125 = .ok (.ireturn, 1) := by decide +kernel
theorem dX7_step_126 : decode cX7_step 126 = .ok (.aload_n 0, 1) := by decide +kernel
theorem dX7_step_127 : decode cX7_step 127 = .ok (.getfield 19, 3) := by decide +kernel
theorem dX7_step_130 : decode cX7_step 130 = .ok (.iload_n 1, 1) := by decide +kernel
theorem dX7_step_131 : decode cX7_step 131 = .ok (.invokestatic 186, 3) := by decide +kernel
theorem dX7_step_134 : decode cX7_step 134 = .ok (.ireturn, 1) := by decide +kernel
theorem dX7_step_135 : decode cX7_step 135 = .ok (.ldc 73, 2) := by decide +kernel
theorem dX7_step_137 : decode cX7_step 137 = .ok (.ireturn, 1) := by decide +kernel
theorem dX7_bears_0 : decode cX7_bears 0 = .ok (.aload_n 0, 1) := by decide +kernel
theorem dX7_bears_1 : decode cX7_bears 1 = .ok (.iconst 0, 1) := by decide +kernel
theorem dX7_bears_2 : decode cX7_bears 2 = .ok (.putfield 53, 3) := by decide +kernel
theorem dX7_bears_5 : decode cX7_bears 5 = .ok (.aload_n 0, 1) := by decide +kernel
theorem dX7_bears_6 : decode cX7_bears 6 = .ok (.iload_n 1, 1) := by decide +kernel
theorem dX7_bears_7 : decode cX7_bears 7 = .ok (.invokevirtual 201, 3) := by decide +kernel
theorem dX7_bears_10 : decode cX7_bears 10 = .ok (.ifCond .eq 15, 3) := by decide +kernel
theorem dX7_bears_13 : decode cX7_bears 13 = .ok (.iload_n 2, 1) := by decide +kernel
theorem dX7_bears_14 : decode cX7_bears 14 = .ok (.i2l, 1) := by decide +kernel
theorem dX7_bears_15 : decode cX7_bears 15 = .ok (.lconst 0, 1) := by decide +kernel
theorem dX7_bears_16 : decode cX7_bears 16 = .ok (.ldc2_w 71, 3) := by decide +kernel
theorem dX7_bears_19 : decode cX7_bears 19 = .ok (.invokestatic 63, 3) := by decide +kernel
theorem dX7_bears_22 : decode cX7_bears 22 = .ok (.ifCond .ne 6, 3) := by decide +kernel
theorem dX7_bears_25 : decode cX7_bears 25 = .ok (.ldc 73, 2) := by decide +kernel
theorem dX7_bears_27 : decode cX7_bears 27 = .ok (.ireturn, 1) := by decide +kernel
theorem dX7_bears_28 : decode cX7_bears 28 = .ok (.aload_n 0, 1) := by decide +kernel
theorem dX7_bears_29 : decode cX7_bears 29 = .ok (.getfield 19, 3) := by decide +kernel
theorem dX7_bears_32 : decode cX7_bears 32 = .ok (.bipush 36, 2) := by decide +kernel
theorem dX7_bears_34 : decode cX7_bears 34 = .ok (.iload_n 1, 1) := by decide +kernel
theorem dX7_bears_35 : decode cX7_bears 35 = .ok (.iadd, 1) := by decide +kernel
theorem dX7_bears_36 : decode cX7_bears 36 = .ok (.iaload, 1) := by decide +kernel
theorem dX7_bears_37 : decode cX7_bears 37 = .ok (.istore_n 3, 1) := by decide +kernel
theorem dX7_bears_38 : decode cX7_bears 38 = .ok (.iload_n 3, 1) := by decide +kernel
theorem dX7_bears_39 : decode cX7_bears 39 = .ok (.ifCond .ge 6, 3) := by decide +kernel
theorem dX7_bears_42 : decode cX7_bears 42 = .ok (.ldc 207, 2) := by decide +kernel
theorem dX7_bears_44 : decode cX7_bears 44 = .ok (.ireturn, 1) := by decide +kernel
theorem dX7_bears_45 : decode cX7_bears 45 = .ok (.iload_n 2, 1) := by decide +kernel
theorem dX7_bears_46 : decode cX7_bears 46 = .ok (.ifCond .ne 14, 3) := by decide +kernel
theorem dX7_bears_49 : decode cX7_bears 49 = .ok (.aload_n 0, 1) := by decide +kernel
theorem dX7_bears_50 : decode cX7_bears 50 = .ok (.getfield 19, 3) := by decide +kernel
theorem dX7_bears_53 : decode cX7_bears 53 = .ok (.iload_n 3, 1) := by decide +kernel
theorem dX7_bears_54 : decode cX7_bears 54 = .ok (.invokestatic 163, 3) := by decide +kernel
theorem dX7_bears_57 : decode cX7_bears 57 = .ok (.goto 35, 3) := by decide +kernel
theorem dX7_bears_60 : decode cX7_bears 60 = .ok (.iload_n 2, 1) := by decide +kernel
theorem dX7_bears_61 : decode cX7_bears 61 = .ok (.iconst 1, 1) := by decide +kernel
theorem dX7_bears_62 : decode cX7_bears 62 = .ok (.if_icmp .ne 22, 3) := by decide +kernel
theorem dX7_bears_65 : decode cX7_bears 65 = .ok (.aload_n 0, 1) := by decide +kernel
theorem dX7_bears_66 : decode cX7_bears 66 = .ok (.getfield 19, 3) := by decide +kernel
theorem dX7_bears_69 : decode cX7_bears 69 = .ok (.iload_n 3, 1) := by decide +kernel
theorem dX7_bears_70 : decode cX7_bears 70 = .ok (.aload_n 0, 1) := by decide +kernel
theorem dX7_bears_71 : decode cX7_bears 71 = .ok (.getfield 19, 3) := by decide +kernel
theorem dX7_bears_74 : decode cX7_bears 74 = .ok (.iload_n 1, 1) := by decide +kernel
theorem dX7_bears_75 : decode cX7_bears 75 = .ok (.invokestatic 175, 3) := by decide +kernel
theorem dX7_bears_78 : decode cX7_bears 78 = .ok (.invokestatic 169, 3) := by decide +kernel
theorem dX7_bears_81 : decode cX7_bears 81 = .ok (.goto 11, 3) := by decide +kernel
theorem dX7_bears_84 : decode cX7_bears 84 = .ok (.aload_n 0, 1) := by decide +kernel
theorem dX7_bears_85 : decode cX7_bears 85 = .ok (.getfield 19, 3) := by decide +kernel
theorem dX7_bears_88 : decode cX7_bears 88 = .ok (.iload_n 3, 1) := by decide +kernel
theorem dX7_bears_89 : decode cX7_bears 89 = .ok (.invokestatic 159, 3) := by decide +kernel
theorem dX7_bears_92 : decode cX7_bears 92 = .ok (.ireturn, 1) := by decide +kernel
theorem dX7_firstLoose_0 : decode cX7_firstLoose 0 = .ok (.iconst 0, 1) := by decide +kernel
theorem dX7_firstLoose_1 : decode cX7_firstLoose 1 = .ok (.istore_n 1, 1) := by decide +kernel
theorem dX7_firstLoose_2 : decode cX7_firstLoose 2 = .ok (.iload_n 1, 1) := by decide +kernel
theorem dX7_firstLoose_3 : decode cX7_firstLoose 3 = .ok (.aload_n 0, 1) := by decide +kernel
theorem dX7_firstLoose_4 : decode cX7_firstLoose 4 = .ok (.getfield 19, 3) := by decide +kernel
theorem dX7_firstLoose_7 : decode cX7_firstLoose 7 = .ok (.iconst 0, 1) := by decide +kernel
theorem dX7_firstLoose_8 : decode cX7_firstLoose 8 = .ok (.iaload, 1) := by decide +kernel
theorem dX7_firstLoose_9 : decode cX7_firstLoose 9 = .ok (.if_icmp .ge 22, 3) := by decide +kernel
theorem dX7_firstLoose_12 : decode cX7_firstLoose 12 = .ok (.aload_n 0, 1) := by decide +kernel
theorem dX7_firstLoose_13 : decode cX7_firstLoose 13 = .ok (.getfield 19, 3) := by decide +kernel
theorem dX7_firstLoose_16 : decode cX7_firstLoose 16 = .ok (.iload_n 1, 1) := by decide +kernel
theorem dX7_firstLoose_17 : decode cX7_firstLoose 17 = .ok (.invokestatic 182, 3) := by decide +kernel
theorem dX7_firstLoose_20 : decode cX7_firstLoose 20 = .ok (.ifCond .ne 5, 3) := by decide +kernel
theorem dX7_firstLoose_23 : decode cX7_firstLoose 23 = .ok (.iload_n 1, 1) := by decide +kernel
theorem dX7_firstLoose_24 : decode cX7_firstLoose 24 = .ok (.ireturn, 1) := by decide +kernel
theorem dX7_firstLoose_25 : decode cX7_firstLoose 25 = .ok (.iinc 1 1, 3) := by decide +kernel
theorem dX7_firstLoose_28 : decode cX7_firstLoose 28 = .ok (.goto (-26), 3) := by decide +kernel
theorem dX7_firstLoose_31 : decode cX7_firstLoose 31 = .ok (.ldc 96, 2) := by decide +kernel
theorem dX7_firstLoose_33 : decode cX7_firstLoose 33 = .ok (.ireturn, 1) := by decide +kernel
theorem dX7_stand_0 : decode cX7_stand 0 = .ok (.aload_n 0, 1) := by decide +kernel
theorem dX7_stand_1 : decode cX7_stand 1 = .ok (.iconst 0, 1) := by decide +kernel
theorem dX7_stand_2 : decode cX7_stand 2 = .ok (.putfield 53, 3) := by decide +kernel
theorem dX7_stand_5 : decode cX7_stand 5 = .ok (.aload_n 0, 1) := by decide +kernel
theorem dX7_stand_6 : decode cX7_stand 6 = .ok (.invokevirtual 211, 3) := by decide +kernel
theorem dX7_stand_9 : decode cX7_stand 9 = .ok (.ifCond .ne 6, 3) := by decide +kernel
theorem dX7_stand_12 : decode cX7_stand 12 = .ok (.ldc 207, 2) := by decide +kernel
theorem dX7_stand_14 : decode cX7_stand 14 = .ok (.ireturn, 1) := by decide +kernel
theorem dX7_stand_15 : decode cX7_stand 15 = .ok (.iload_n 1, 1) := by decide +kernel
theorem dX7_stand_16 : decode cX7_stand 16 = .ok (.tableswitch 97 0 8 #[52, 52, 52, 52, 52, 59, 67, 76, 81], 52) := by decide +kernel
theorem dX7_stand_68 : decode cX7_stand 68 = .ok (.aload_n 0, 1) := by decide +kernel
theorem dX7_stand_69 : decode cX7_stand 69 = .ok (.getfield 19, 3) := by decide +kernel
theorem dX7_stand_72 : decode cX7_stand 72 = .ok (.iload_n 1, 1) := by decide +kernel
theorem dX7_stand_73 : decode cX7_stand 73 = .ok (.iaload, 1) := by decide +kernel
theorem dX7_stand_74 : decode cX7_stand 74 = .ok (.ireturn, 1) := by decide +kernel
theorem dX7_stand_75 : decode cX7_stand 75 = .ok (.aload_n 0, 1) := by decide +kernel
theorem dX7_stand_76 : decode cX7_stand 76 = .ok (.getfield 19, 3) := by decide +kernel
theorem dX7_stand_79 : decode cX7_stand 79 = .ok (.invokestatic 217, 3) := by decide +kernel
theorem dX7_stand_82 : decode cX7_stand 82 = .ok (.ireturn, 1) := by decide +kernel
theorem dX7_stand_83 : decode cX7_stand 83 = .ok (.aload_n 0, 1) := by decide +kernel
theorem dX7_stand_84 : decode cX7_stand 84 = .ok (.getfield 19, 3) := by decide +kernel
theorem dX7_stand_87 : decode cX7_stand 87 = .ok (.iconst 0, 1) := by decide +kernel
theorem dX7_stand_88 : decode cX7_stand 88 = .ok (.invokestatic 175, 3) := by decide +kernel
theorem dX7_stand_91 : decode cX7_stand 91 = .ok (.ireturn, 1) := by decide +kernel
theorem dX7_stand_92 : decode cX7_stand 92 = .ok (.aload_n 0, 1) := by decide +kernel
theorem dX7_stand_93 : decode cX7_stand 93 = .ok (.invokevirtual 229, 3) := by decide +kernel
theorem dX7_stand_96 : decode cX7_stand 96 = .ok (.ireturn, 1) := by decide +kernel
theorem dX7_stand_97 : decode cX7_stand 97 = .ok (.aload_n 0, 1) := by decide +kernel
theorem dX7_stand_98 : decode cX7_stand 98 = .ok (.getfield 19, 3) := by decide +kernel
theorem dX7_stand_101 : decode cX7_stand 101 = .ok (.invokestatic 233, 3) := by decide +kernel
theorem dX7_stand_104 : decode cX7_stand 104 = .ok (.ifCond .eq 7, 3) := by decide +kernel
theorem dX7_stand_107 : decode cX7_stand 107 = .ok (.iconst 1, 1) := by decide +kernel
theorem dX7_stand_108 : decode cX7_stand 108 = .ok (.goto 4, 3) := by decide +kernel
theorem dX7_stand_111 : decode cX7_stand 111 = .ok (.iconst 0, 1) := by decide +kernel
theorem dX7_stand_112 : decode cX7_stand 112 = .ok (.ireturn, 1) := by decide +kernel
theorem dX7_stand_113 : decode cX7_stand 113 = .ok (.ldc 73, 2) := by decide +kernel
theorem dX7_stand_115 : decode cX7_stand 115 = .ok (.ireturn, 1) := by decide +kernel
theorem dX7_best_0 : decode cX7_best 0 = .ok (.aload_n 0, 1) := by decide +kernel
theorem dX7_best_1 : decode cX7_best 1 = .ok (.iconst 0, 1) := by decide +kernel
theorem dX7_best_2 : decode cX7_best 2 = .ok (.putfield 53, 3) := by decide +kernel
theorem dX7_best_5 : decode cX7_best 5 = .ok (.aload_n 0, 1) := by decide +kernel
theorem dX7_best_6 : decode cX7_best 6 = .ok (.invokevirtual 211, 3) := by decide +kernel
theorem dX7_best_9 : decode cX7_best 9 = .ok (.ifCond .ne 6, 3) := by decide +kernel
theorem dX7_best_12 : decode cX7_best 12 = .ok (.ldc 207, 2) := by decide +kernel
theorem dX7_best_14 : decode cX7_best 14 = .ok (.ireturn, 1) := by decide +kernel
theorem dX7_best_15 : decode cX7_best 15 = .ok (.iload_n 1, 1) := by decide +kernel
theorem dX7_best_16 : decode cX7_best 16 = .ok (.i2l, 1) := by decide +kernel
theorem dX7_best_17 : decode cX7_best 17 = .ok (.lconst 0, 1) := by decide +kernel
theorem dX7_best_18 : decode cX7_best 18 = .ok (.lconst 1, 1) := by decide +kernel
theorem dX7_best_19 : decode cX7_best 19 = .ok (.invokestatic 63, 3) := by decide +kernel
theorem dX7_best_22 : decode cX7_best 22 = .ok (.ifCond .ne 17, 3) := by decide +kernel
theorem dX7_best_25 : decode cX7_best 25 = .ok (.aload_n 0, 1) := by decide +kernel
theorem dX7_best_26 : decode cX7_best 26 = .ok (.iload_n 1, 1) := by decide +kernel
theorem dX7_best_27 : decode cX7_best 27 = .ok (.bipush 10, 2) := by decide +kernel
theorem dX7_best_29 : decode cX7_best 29 = .ok (.isub, 1) := by decide +kernel
theorem dX7_best_30 : decode cX7_best 30 = .ok (.invokevirtual 201, 3) := by decide +kernel
theorem dX7_best_33 : decode cX7_best 33 = .ok (.ifCond .ne 6, 3) := by decide +kernel
theorem dX7_best_36 : decode cX7_best 36 = .ok (.ldc 73, 2) := by decide +kernel
theorem dX7_best_38 : decode cX7_best 38 = .ok (.ireturn, 1) := by decide +kernel
theorem dX7_best_39 : decode cX7_best 39 = .ok (.aload_n 0, 1) := by decide +kernel
theorem dX7_best_40 : decode cX7_best 40 = .ok (.aload_n 0, 1) := by decide +kernel
theorem dX7_best_41 : decode cX7_best 41 = .ok (.getfield 19, 3) := by decide +kernel
theorem dX7_best_44 : decode cX7_best 44 = .ok (.iconst (-1), 1) := by decide +kernel
theorem dX7_best_45 : decode cX7_best 45 = .ok (.invokevirtual 214, 3) := by decide +kernel
theorem dX7_best_48 : decode cX7_best 48 = .ok (.istore_n 2, 1) := by decide +kernel
theorem dX7_best_49 : decode cX7_best 49 = .ok (.iload_n 2, 1) := by decide +kernel
theorem dX7_best_50 : decode cX7_best 50 = .ok (.ldc 189, 2) := by decide +kernel
theorem dX7_best_52 : decode cX7_best 52 = .ok (.if_icmp .ne 6, 3) := by decide +kernel
theorem dX7_best_55 : decode cX7_best 55 = .ok (.ldc 96, 2) := by decide +kernel
theorem dX7_best_57 : decode cX7_best 57 = .ok (.ireturn, 1) := by decide +kernel
theorem dX7_best_58 : decode cX7_best 58 = .ok (.iload_n 1, 1) := by decide +kernel
theorem dX7_best_59 : decode cX7_best 59 = .ok (.ifCond .ne 10, 3) := by decide +kernel
theorem dX7_best_62 : decode cX7_best 62 = .ok (.iload_n 2, 1) := by decide +kernel
theorem dX7_best_63 : decode cX7_best 63 = .ok (.bipush 100, 2) := by decide +kernel
theorem dX7_best_65 : decode cX7_best 65 = .ok (.idiv, 1) := by decide +kernel
theorem dX7_best_66 : decode cX7_best 66 = .ok (.goto 24, 3) := by decide +kernel
theorem dX7_best_69 : decode cX7_best 69 = .ok (.iload_n 1, 1) := by decide +kernel
theorem dX7_best_70 : decode cX7_best 70 = .ok (.iconst 1, 1) := by decide +kernel
theorem dX7_best_71 : decode cX7_best 71 = .ok (.if_icmp .ne 10, 3) := by decide +kernel
theorem dX7_best_74 : decode cX7_best 74 = .ok (.iload_n 2, 1) := by decide +kernel
theorem dX7_best_75 : decode cX7_best 75 = .ok (.bipush 100, 2) := by decide +kernel
theorem dX7_best_77 : decode cX7_best 77 = .ok (.irem, 1) := by decide +kernel
theorem dX7_best_78 : decode cX7_best 78 = .ok (.goto 12, 3) := by decide +kernel
theorem dX7_best_81 : decode cX7_best 81 = .ok (.aload_n 0, 1) := by decide +kernel
theorem dX7_best_82 : decode cX7_best 82 = .ok (.getfield 37, 3) := by decide +kernel
theorem dX7_best_85 : decode cX7_best 85 = .ok (.iload_n 1, 1) := by decide +kernel
theorem dX7_best_86 : decode cX7_best 86 = .ok (.bipush 10, 2) := by decide +kernel
theorem dX7_best_88 : decode cX7_best 88 = .ok (.isub, 1) := by decide +kernel
theorem dX7_best_89 : decode cX7_best 89 = .ok (.iaload, 1) := by decide +kernel
theorem dX7_best_90 : decode cX7_best 90 = .ok (.ireturn, 1) := by decide +kernel
theorem dX7_without_0 : decode cX7_without 0 = .ok (.aload_n 0, 1) := by decide +kernel
theorem dX7_without_1 : decode cX7_without 1 = .ok (.iconst 0, 1) := by decide +kernel
theorem dX7_without_2 : decode cX7_without 2 = .ok (.putfield 53, 3) := by decide +kernel
theorem dX7_without_5 : decode cX7_without 5 = .ok (.aload_n 0, 1) := by decide +kernel
theorem dX7_without_6 : decode cX7_without 6 = .ok (.iload_n 1, 1) := by decide +kernel
theorem dX7_without_7 : decode cX7_without 7 = .ok (.invokevirtual 204, 3) := by decide +kernel
theorem dX7_without_10 : decode cX7_without 10 = .ok (.ifCond .ne 6, 3) := by decide +kernel
theorem dX7_without_13 : decode cX7_without 13 = .ok (.ldc 73, 2) := by decide +kernel
theorem dX7_without_15 : decode cX7_without 15 = .ok (.ireturn, 1) := by decide +kernel
theorem dX7_without_16 : decode cX7_without 16 = .ok (.aload_n 0, 1) := by decide +kernel
theorem dX7_without_17 : decode cX7_without 17 = .ok (.aload_n 0, 1) := by decide +kernel
theorem dX7_without_18 : decode cX7_without 18 = .ok (.getfield 19, 3) := by decide +kernel
theorem dX7_without_21 : decode cX7_without 21 = .ok (.iload_n 1, 1) := by decide +kernel
theorem dX7_without_22 : decode cX7_without 22 = .ok (.invokevirtual 214, 3) := by decide +kernel
theorem dX7_without_25 : decode cX7_without 25 = .ok (.istore_n 2, 1) := by decide +kernel
theorem dX7_without_26 : decode cX7_without 26 = .ok (.iload_n 2, 1) := by decide +kernel
theorem dX7_without_27 : decode cX7_without 27 = .ok (.ldc 189, 2) := by decide +kernel
theorem dX7_without_29 : decode cX7_without 29 = .ok (.if_icmp .ne 8, 3) := by decide +kernel
theorem dX7_without_32 : decode cX7_without 32 = .ok (.ldc 96, 2) := by decide +kernel
theorem dX7_without_34 : decode cX7_without 34 = .ok (.goto 7, 3) := by decide +kernel
theorem dX7_without_37 : decode cX7_without 37 = .ok (.iload_n 2, 1) := by decide +kernel
theorem dX7_without_38 : decode cX7_without 38 = .ok (.bipush 100, 2) := by decide +kernel
theorem dX7_without_40 : decode cX7_without 40 = .ok (.idiv, 1) := by decide +kernel
theorem dX7_without_41 : decode cX7_without 41 = .ok (.ireturn, 1) := by decide +kernel
theorem dX7_most_0 : decode cX7_most 0 = .ok (.aload_n 0, 1) := by decide +kernel
theorem dX7_most_1 : decode cX7_most 1 = .ok (.iconst 0, 1) := by decide +kernel
theorem dX7_most_2 : decode cX7_most 2 = .ok (.putfield 53, 3) := by decide +kernel
theorem dX7_most_5 : decode cX7_most 5 = .ok (.aload_n 0, 1) := by decide +kernel
theorem dX7_most_6 : decode cX7_most 6 = .ok (.invokevirtual 211, 3) := by decide +kernel
theorem dX7_most_9 : decode cX7_most 9 = .ok (.ifCond .ne 6, 3) := by decide +kernel
theorem dX7_most_12 : decode cX7_most 12 = .ok (.ldc 207, 2) := by decide +kernel
theorem dX7_most_14 : decode cX7_most 14 = .ok (.ireturn, 1) := by decide +kernel
theorem dX7_most_15 : decode cX7_most 15 = .ok (.iload_n 1, 1) := by decide +kernel
theorem dX7_most_16 : decode cX7_most 16 = .ok (.i2l, 1) := by decide +kernel
theorem dX7_most_17 : decode cX7_most 17 = .ok (.lconst 0, 1) := by decide +kernel
theorem dX7_most_18 : decode cX7_most 18 = .ok (.lconst 1, 1) := by decide +kernel
theorem dX7_most_19 : decode cX7_most 19 = .ok (.invokestatic 63, 3) := by decide +kernel
theorem dX7_most_22 : decode cX7_most 22 = .ok (.ifCond .ne 6, 3) := by decide +kernel
theorem dX7_most_25 : decode cX7_most 25 = .ok (.ldc 73, 2) := by decide +kernel
theorem dX7_most_27 : decode cX7_most 27 = .ok (.ireturn, 1) := by decide +kernel
theorem dX7_most_28 : decode cX7_most 28 = .ok (.aload_n 0, 1) := by decide +kernel
theorem dX7_most_29 : decode cX7_most 29 = .ok (.invokevirtual 237, 3) := by decide +kernel
theorem dX7_most_32 : decode cX7_most 32 = .ok (.iload_n 1, 1) := by decide +kernel
theorem dX7_most_33 : decode cX7_most 33 = .ok (.ifCond .ne 8, 3) := by decide +kernel
theorem dX7_most_36 : decode cX7_most 36 = .ok (.bipush 40, 2) := by decide +kernel
theorem dX7_most_38 : decode cX7_most 38 = .ok (.goto 5, 3) := by decide +kernel
theorem dX7_most_41 : decode cX7_most 41 = .ok (.bipush 99, 2) := by decide +kernel
theorem dX7_most_43 : decode cX7_most 43 = .ok (.istore_n 2, 1) := by decide +kernel
theorem dX7_most_44 : decode cX7_most 44 = .ok (.iload_n 2, 1) := by decide +kernel
theorem dX7_most_45 : decode cX7_most 45 = .ok (.ifCond .lt 42, 3) := by decide +kernel
theorem dX7_most_48 : decode cX7_most 48 = .ok (.aload_n 0, 1) := by decide +kernel
theorem dX7_most_49 : decode cX7_most 49 = .ok (.getfield 25, 3) := by decide +kernel
theorem dX7_most_52 : decode cX7_most 52 = .ok (.iload_n 1, 1) := by decide +kernel
theorem dX7_most_53 : decode cX7_most 53 = .ok (.ifCond .ne 7, 3) := by decide +kernel
theorem dX7_most_56 : decode cX7_most 56 = .ok (.iconst 2, 1) := by decide +kernel
theorem dX7_most_57 : decode cX7_most 57 = .ok (.goto 4, 3) := by decide +kernel
theorem dX7_most_60 : decode cX7_most 60 = .ok (.iconst 3, 1) := by decide +kernel
theorem dX7_most_61 : decode cX7_most 61 = .ok (.iload_n 2, 1) := by decide +kernel
theorem dX7_most_62 : decode cX7_most 62 = .ok (.iastore, 1) := by decide +kernel
theorem dX7_most_63 : decode cX7_most 63 = .ok (.aload_n 0, 1) := by decide +kernel
theorem dX7_most_64 : decode cX7_most 64 = .ok (.getfield 25, 3) := by decide +kernel
theorem dX7_most_67 : decode cX7_most 67 = .ok (.invokestatic 240, 3) := by decide +kernel
theorem dX7_most_70 : decode cX7_most 70 = .ok (.aload_n 0, 1) := by decide +kernel
theorem dX7_most_71 : decode cX7_most 71 = .ok (.getfield 25, 3) := by decide +kernel
theorem dX7_most_74 : decode cX7_most 74 = .ok (.iconst 0, 1) := by decide +kernel
theorem dX7_most_75 : decode cX7_most 75 = .ok (.iaload, 1) := by decide +kernel
theorem dX7_most_76 : decode cX7_most 76 = .ok (.if_icmp .ne 5, 3) := by decide +kernel
theorem dX7_most_79 : decode cX7_most 79 = .ok (.iload_n 2, 1) := by decide +kernel
theorem dX7_most_80 : decode cX7_most 80 = .ok (.ireturn, 1) := by decide +kernel
theorem dX7_most_81 : decode cX7_most 81 = .ok (.iinc 2 (-1), 3) := by decide +kernel
theorem dX7_most_84 : decode cX7_most 84 = .ok (.goto (-40), 3) := by decide +kernel
theorem dX7_most_87 : decode cX7_most 87 = .ok (.ldc 96, 2) := by decide +kernel
theorem dX7_most_89 : decode cX7_most 89 = .ok (.ireturn, 1) := by decide +kernel
theorem dX7_need_0 : decode cX7_need 0 = .ok (.aload_n 0, 1) := by decide +kernel
theorem dX7_need_1 : decode cX7_need 1 = .ok (.iconst 0, 1) := by decide +kernel
theorem dX7_need_2 : decode cX7_need 2 = .ok (.putfield 53, 3) := by decide +kernel
theorem dX7_need_5 : decode cX7_need 5 = .ok (.aload_n 0, 1) := by decide +kernel
theorem dX7_need_6 : decode cX7_need 6 = .ok (.iload_n 1, 1) := by decide +kernel
theorem dX7_need_7 : decode cX7_need 7 = .ok (.invokevirtual 201, 3) := by decide +kernel
theorem dX7_need_10 : decode cX7_need 10 = .ok (.ifCond .ne 6, 3) := by decide +kernel
theorem dX7_need_13 : decode cX7_need 13 = .ok (.ldc 73, 2) := by decide +kernel
theorem dX7_need_15 : decode cX7_need 15 = .ok (.ireturn, 1) := by decide +kernel
theorem dX7_need_16 : decode cX7_need 16 = .ok (.iconst 0, 1) := by decide +kernel
theorem dX7_need_17 : decode cX7_need 17 = .ok (.istore_n 2, 1) := by decide +kernel
theorem dX7_need_18 : decode cX7_need 18 = .ok (.aload_n 0, 1) := by decide +kernel
theorem dX7_need_19 : decode cX7_need 19 = .ok (.invokevirtual 237, 3) := by decide +kernel
theorem dX7_need_22 : decode cX7_need 22 = .ok (.iconst 0, 1) := by decide +kernel
theorem dX7_need_23 : decode cX7_need 23 = .ok (.istore_n 3, 1) := by decide +kernel
theorem dX7_need_24 : decode cX7_need 24 = .ok (.iload_n 3, 1) := by decide +kernel
theorem dX7_need_25 : decode cX7_need 25 = .ok (.aload_n 0, 1) := by decide +kernel
theorem dX7_need_26 : decode cX7_need 26 = .ok (.getfield 19, 3) := by decide +kernel
theorem dX7_need_29 : decode cX7_need 29 = .ok (.iconst 5, 1) := by decide +kernel
theorem dX7_need_30 : decode cX7_need 30 = .ok (.iaload, 1) := by decide +kernel
theorem dX7_need_31 : decode cX7_need 31 = .ok (.if_icmp .ge 40, 3) := by decide +kernel
theorem dX7_need_34 : decode cX7_need 34 = .ok (.aload_n 0, 1) := by decide +kernel
theorem dX7_need_35 : decode cX7_need 35 = .ok (.getfield 25, 3) := by decide +kernel
theorem dX7_need_38 : decode cX7_need 38 = .ok (.bipush 36, 2) := by decide +kernel
theorem dX7_need_40 : decode cX7_need 40 = .ok (.iload_n 1, 1) := by decide +kernel
theorem dX7_need_41 : decode cX7_need 41 = .ok (.iadd, 1) := by decide +kernel
theorem dX7_need_42 : decode cX7_need 42 = .ok (.iload_n 3, 1) := by decide +kernel
theorem dX7_need_43 : decode cX7_need 43 = .ok (.iastore, 1) := by decide +kernel
theorem dX7_need_44 : decode cX7_need 44 = .ok (.iload_n 2, 1) := by decide +kernel
theorem dX7_need_45 : decode cX7_need 45 = .ok (.aload_n 0, 1) := by decide +kernel
theorem dX7_need_46 : decode cX7_need 46 = .ok (.getfield 25, 3) := by decide +kernel
theorem dX7_need_49 : decode cX7_need 49 = .ok (.iload_n 1, 1) := by decide +kernel
theorem dX7_need_50 : decode cX7_need 50 = .ok (.invokestatic 182, 3) := by decide +kernel
theorem dX7_need_53 : decode cX7_need 53 = .ok (.ifCond .eq 9, 3) := by decide +kernel
theorem dX7_need_56 : decode cX7_need 56 = .ok (.iconst 1, 1) := by decide +kernel
theorem dX7_need_57 : decode cX7_need 57 = .ok (.iload_n 3, 1) := by decide +kernel
theorem dX7_need_58 : decode cX7_need 58 = .ok (.ishl, 1) := by decide +kernel
theorem dX7_need_59 : decode cX7_need 59 = .ok (.goto 4, 3) := by decide +kernel
theorem dX7_need_62 : decode cX7_need 62 = .ok (.iconst 0, 1) := by decide +kernel
theorem dX7_need_63 : decode cX7_need 63 = .ok (.ior, 1) := by decide +kernel
theorem dX7_need_64 : decode cX7_need 64 = .ok (.istore_n 2, 1) := by decide +kernel
theorem dX7_need_65 : decode cX7_need 65 = .ok (.iinc 3 1, 3) := by decide +kernel
theorem dX7_need_68 : decode cX7_need 68 = .ok (.goto (-44), 3) := by decide +kernel
theorem dX7_need_71 : decode cX7_need 71 = .ok (.iload_n 2, 1) := by decide +kernel
theorem dX7_need_72 : decode cX7_need 72 = .ok (.ireturn, 1) := by decide +kernel
theorem dX7_sets_0 : decode cX7_sets 0 = .ok (.aload_n 0, 1) := by decide +kernel
theorem dX7_sets_1 : decode cX7_sets 1 = .ok (.iconst 0, 1) := by decide +kernel
theorem dX7_sets_2 : decode cX7_sets 2 = .ok (.putfield 53, 3) := by decide +kernel
theorem dX7_sets_5 : decode cX7_sets 5 = .ok (.aload_n 0, 1) := by decide +kernel
theorem dX7_sets_6 : decode cX7_sets 6 = .ok (.invokevirtual 211, 3) := by decide +kernel
theorem dX7_sets_9 : decode cX7_sets 9 = .ok (.ifCond .ne 6, 3) := by decide +kernel
theorem dX7_sets_12 : decode cX7_sets 12 = .ok (.ldc 207, 2) := by decide +kernel
theorem dX7_sets_14 : decode cX7_sets 14 = .ok (.ireturn, 1) := by decide +kernel
theorem dX7_sets_15 : decode cX7_sets 15 = .ok (.iload_n 1, 1) := by decide +kernel
theorem dX7_sets_16 : decode cX7_sets 16 = .ok (.i2l, 1) := by decide +kernel
theorem dX7_sets_17 : decode cX7_sets 17 = .ok (.lconst 0, 1) := by decide +kernel
theorem dX7_sets_18 : decode cX7_sets 18 = .ok (.ldc2_w 243, 3) := by decide +kernel
theorem dX7_sets_21 : decode cX7_sets 21 = .ok (.invokestatic 63, 3) := by decide +kernel
theorem dX7_sets_24 : decode cX7_sets 24 = .ok (.ifCond .eq 15, 3) := by decide +kernel
theorem dX7_sets_27 : decode cX7_sets 27 = .ok (.iload_n 2, 1) := by decide +kernel
theorem dX7_sets_28 : decode cX7_sets 28 = .ok (.i2l, 1) := by decide +kernel
theorem dX7_sets_29 : decode cX7_sets 29 = .ok (.lconst 0, 1) := by decide +kernel
theorem dX7_sets_30 : decode cX7_sets 30 = .ok (.ldc2_w 71, 3) := by decide +kernel
theorem dX7_sets_33 : decode cX7_sets 33 = .ok (.invokestatic 63, 3) := by decide +kernel
theorem dX7_sets_36 : decode cX7_sets 36 = .ok (.ifCond .ne 6, 3) := by decide +kernel
theorem dX7_sets_39 : decode cX7_sets 39 = .ok (.ldc 73, 2) := by decide +kernel
theorem dX7_sets_41 : decode cX7_sets 41 = .ok (.ireturn, 1) := by decide +kernel
theorem dX7_sets_42 : decode cX7_sets 42 = .ok (.iconst 0, 1) := by decide +kernel
theorem dX7_sets_43 : decode cX7_sets 43 = .ok (.istore_n 3, 1) := by decide +kernel
theorem dX7_sets_44 : decode cX7_sets 44 = .ok (.iconst 0, 1) := by decide +kernel
theorem dX7_sets_45 : decode cX7_sets 45 = .ok (.istore 4, 2) := by decide +kernel
theorem dX7_sets_47 : decode cX7_sets 47 = .ok (.iconst 0, 1) := by decide +kernel
theorem dX7_sets_48 : decode cX7_sets 48 = .ok (.istore 5, 2) := by decide +kernel
theorem dX7_sets_50 : decode cX7_sets 50 = .ok (.iconst 0, 1) := by decide +kernel
theorem dX7_sets_51 : decode cX7_sets 51 = .ok (.istore 6, 2) := by decide +kernel
theorem dX7_sets_53 : decode cX7_sets 53 = .ok (.iload 6, 2) := by decide +kernel
theorem dX7_sets_55 : decode cX7_sets 55 = .ok (.iconst 1, 1) := by decide +kernel
theorem dX7_sets_56 : decode cX7_sets 56 = .ok (.aload_n 0, 1) := by decide +kernel
theorem dX7_sets_57 : decode cX7_sets 57 = .ok (.getfield 19, 3) := by decide +kernel
theorem dX7_sets_60 : decode cX7_sets 60 = .ok (.iconst 0, 1) := by decide +kernel
theorem dX7_sets_61 : decode cX7_sets 61 = .ok (.iaload, 1) := by decide +kernel
theorem dX7_sets_62 : decode cX7_sets 62 = .ok (.ishl, 1) := by decide +kernel
theorem dX7_sets_63 : decode cX7_sets 63 = .ok (.if_icmp .ge 161, 3) := by decide +kernel
theorem dX7_sets_66 : decode cX7_sets 66 = .ok (.iconst 0, 1) := by decide +kernel
theorem dX7_sets_67 : decode cX7_sets 67 = .ok (.istore 7, 2) := by decide +kernel
theorem dX7_sets_69 : decode cX7_sets 69 = .ok (.iconst 1, 1) := by decide +kernel
theorem dX7_sets_70 : decode cX7_sets 70 = .ok (.istore 8, 2) := by decide +kernel
theorem dX7_sets_72 : decode cX7_sets 72 = .ok (.iconst 0, 1) := by decide +kernel
theorem dX7_sets_73 : decode cX7_sets 73 = .ok (.istore 9, 2) := by decide +kernel
theorem dX7_sets_75 : decode cX7_sets 75 = .ok (.iload 9, 2) := by decide +kernel
theorem dX7_sets_77 : decode cX7_sets 77 = .ok (.aload_n 0, 1) := by decide +kernel
theorem dX7_sets_78 : decode cX7_sets 78 = .ok (.getfield 19, 3) := by decide +kernel
theorem dX7_sets_81 : decode cX7_sets 81 = .ok (.iconst 0, 1) := by decide +kernel
theorem dX7_sets_82 : decode cX7_sets 82 = .ok (.iaload, 1) := by decide +kernel
theorem dX7_sets_83 : decode cX7_sets 83 = .ok (.if_icmp .ge 98, 3) := by decide +kernel
theorem dX7_sets_86 : decode cX7_sets 86 = .ok (.aload_n 0, 1) := by decide +kernel
theorem dX7_sets_87 : decode cX7_sets 87 = .ok (.getfield 19, 3) := by decide +kernel
theorem dX7_sets_90 : decode cX7_sets 90 = .ok (.bipush 36, 2) := by decide +kernel
theorem dX7_sets_92 : decode cX7_sets 92 = .ok (.iload 9, 2) := by decide +kernel
theorem dX7_sets_94 : decode cX7_sets 94 = .ok (.iadd, 1) := by decide +kernel
theorem dX7_sets_95 : decode cX7_sets 95 = .ok (.iaload, 1) := by decide +kernel
theorem dX7_sets_96 : decode cX7_sets 96 = .ok (.ifCond .ge 7, 3) := by decide +kernel
theorem dX7_sets_99 : decode cX7_sets 99 = .ok (.iconst 1, 1) := by decide +kernel
theorem dX7_sets_100 : decode cX7_sets 100 = .ok (.goto 4, 3) := by decide +kernel
theorem dX7_sets_103 : decode cX7_sets 103 = .ok (.iconst 0, 1) := by decide +kernel
theorem dX7_sets_104 : decode cX7_sets 104 = .ok (.istore 10, 2) := by decide +kernel
theorem dX7_sets_106 : decode cX7_sets 106 = .ok (.iload 7, 2) := by decide +kernel
theorem dX7_sets_108 : decode cX7_sets 108 = .ok (.iload 6, 2) := by decide +kernel
theorem dX7_sets_110 : decode cX7_sets 110 = .ok (.iload 9, 2) := by decide +kernel
theorem dX7_sets_112 : decode cX7_sets 112 = .ok (.invokestatic 245, 3) := by decide +kernel
theorem dX7_sets_115 : decode cX7_sets 115 = .ok (.ifCond .eq 29, 3) := by decide +kernel
theorem dX7_sets_118 : decode cX7_sets 118 = .ok (.iload 10, 2) := by decide +kernel
theorem dX7_sets_120 : decode cX7_sets 120 = .ok (.ifCond .ne 24, 3) := by decide +kernel
theorem dX7_sets_123 : decode cX7_sets 123 = .ok (.aload_n 0, 1) := by decide +kernel
theorem dX7_sets_124 : decode cX7_sets 124 = .ok (.getfield 19, 3) := by decide +kernel
theorem dX7_sets_127 : decode cX7_sets 127 = .ok (.aload_n 0, 1) := by decide +kernel
theorem dX7_sets_128 : decode cX7_sets 128 = .ok (.getfield 19, 3) := by decide +kernel
theorem dX7_sets_131 : decode cX7_sets 131 = .ok (.bipush 36, 2) := by decide +kernel
theorem dX7_sets_133 : decode cX7_sets 133 = .ok (.iload 9, 2) := by decide +kernel
theorem dX7_sets_135 : decode cX7_sets 135 = .ok (.iadd, 1) := by decide +kernel
theorem dX7_sets_136 : decode cX7_sets 136 = .ok (.iaload, 1) := by decide +kernel
theorem dX7_sets_137 : decode cX7_sets 137 = .ok (.iconst 5, 1) := by decide +kernel
theorem dX7_sets_138 : decode cX7_sets 138 = .ok (.invokestatic 155, 3) := by decide +kernel
theorem dX7_sets_141 : decode cX7_sets 141 = .ok (.goto 4, 3) := by decide +kernel
theorem dX7_sets_144 : decode cX7_sets 144 = .ok (.iconst 0, 1) := by decide +kernel
theorem dX7_sets_145 : decode cX7_sets 145 = .ok (.iadd, 1) := by decide +kernel
theorem dX7_sets_146 : decode cX7_sets 146 = .ok (.istore 7, 2) := by decide +kernel
theorem dX7_sets_148 : decode cX7_sets 148 = .ok (.iload 8, 2) := by decide +kernel
theorem dX7_sets_150 : decode cX7_sets 150 = .ok (.ifCond .eq 22, 3) := by decide +kernel
theorem dX7_sets_153 : decode cX7_sets 153 = .ok (.iload 6, 2) := by decide +kernel
theorem dX7_sets_155 : decode cX7_sets 155 = .ok (.iload 9, 2) := by decide +kernel
theorem dX7_sets_157 : decode cX7_sets 157 = .ok (.invokestatic 245, 3) := by decide +kernel
theorem dX7_sets_160 : decode cX7_sets 160 = .ok (.ifCond .eq 8, 3) := by decide +kernel
theorem dX7_sets_163 : decode cX7_sets 163 = .ok (.iload 10, 2) := by decide +kernel
theorem dX7_sets_165 : decode cX7_sets 165 = .ok (.ifCond .ne 7, 3) := by decide +kernel
theorem dX7_sets_168 : decode cX7_sets 168 = .ok (.iconst 1, 1) := by decide +kernel
theorem dX7_sets_169 : decode cX7_sets 169 = .ok (.goto 4, 3) := by decide +kernel
theorem dX7_sets_172 : decode cX7_sets 172 = .ok (.iconst 0, 1) := by decide +kernel
theorem dX7_sets_173 : decode cX7_sets 173 = .ok (.istore 8, 2) := by decide +kernel
theorem dX7_sets_175 : decode cX7_sets 175 = .ok (.iinc 9 1, 3) := by decide +kernel
theorem dX7_sets_178 : decode cX7_sets 178 = .ok (.goto (-103), 3) := by decide +kernel
theorem dX7_sets_181 : decode cX7_sets 181 = .ok (.iload 8, 2) := by decide +kernel
theorem dX7_sets_183 : decode cX7_sets 183 = .ok (.ifCond .eq 35, 3) := by decide +kernel
theorem dX7_sets_186 : decode cX7_sets 186 = .ok (.iload 7, 2) := by decide +kernel
theorem dX7_sets_188 : decode cX7_sets 188 = .ok (.iload_n 1, 1) := by decide +kernel
theorem dX7_sets_189 : decode cX7_sets 189 = .ok (.if_icmp .ne 29, 3) := by decide +kernel
theorem dX7_sets_192 : decode cX7_sets 192 = .ok (.iload_n 3, 1) := by decide +kernel
theorem dX7_sets_193 : decode cX7_sets 193 = .ok (.ifCond .ne 8, 3) := by decide +kernel
theorem dX7_sets_196 : decode cX7_sets 196 = .ok (.iload 6, 2) := by decide +kernel
theorem dX7_sets_198 : decode cX7_sets 198 = .ok (.goto 8, 3) := by decide +kernel
theorem dX7_sets_201 : decode cX7_sets 201 = .ok (.iload 4, 2) := by decide +kernel
theorem dX7_sets_203 : decode cX7_sets 203 = .ok (.iload 6, 2) := by decide +kernel
theorem dX7_sets_205 : decode cX7_sets 205 = .ok (.iand, 1) := by decide +kernel
theorem dX7_sets_206 : decode cX7_sets 206 = .ok (.istore 4, 2) := by decide +kernel
theorem dX7_sets_208 : decode cX7_sets 208 = .ok (.iload 5, 2) := by decide +kernel
theorem dX7_sets_210 : decode cX7_sets 210 = .ok (.iload 6, 2) := by decide +kernel
theorem dX7_sets_212 : decode cX7_sets 212 = .ok (.ior, 1) := by decide +kernel
theorem dX7_sets_213 : decode cX7_sets 213 = .ok (.istore 5, 2) := by decide +kernel
theorem dX7_sets_215 : decode cX7_sets 215 = .ok (.iinc 3 1, 3) := by decide +kernel
theorem dX7_sets_218 : decode cX7_sets 218 = .ok (.iinc 6 1, 3) := by decide +kernel
theorem dX7_sets_221 : decode cX7_sets 221 = .ok (.goto (-168), 3) := by decide +kernel
theorem dX7_sets_224 : decode cX7_sets 224 = .ok (.iload_n 2, 1) := by decide +kernel
theorem dX7_sets_225 : decode cX7_sets 225 = .ok (.ifCond .ne 7, 3) := by decide +kernel
theorem dX7_sets_228 : decode cX7_sets 228 = .ok (.iload_n 3, 1) := by decide +kernel
theorem dX7_sets_229 : decode cX7_sets 229 = .ok (.goto 15, 3) := by decide +kernel
theorem dX7_sets_232 : decode cX7_sets 232 = .ok (.iload_n 2, 1) := by decide +kernel
theorem dX7_sets_233 : decode cX7_sets 233 = .ok (.iconst 1, 1) := by decide +kernel
theorem dX7_sets_234 : decode cX7_sets 234 = .ok (.if_icmp .ne 8, 3) := by decide +kernel
theorem dX7_sets_237 : decode cX7_sets 237 = .ok (.iload 4, 2) := by decide +kernel
theorem dX7_sets_239 : decode cX7_sets 239 = .ok (.goto 5, 3) := by decide +kernel
theorem dX7_sets_242 : decode cX7_sets 242 = .ok (.iload 5, 2) := by decide +kernel
theorem dX7_sets_244 : decode cX7_sets 244 = .ok (.ireturn, 1) := by decide +kernel
theorem dX7_heftAt_0 : decode cX7_heftAt 0 = .ok (.aload_n 0, 1) := by decide +kernel
theorem dX7_heftAt_1 : decode cX7_heftAt 1 = .ok (.getfield 19, 3) := by decide +kernel
theorem dX7_heftAt_4 : decode cX7_heftAt 4 = .ok (.bipush 36, 2) := by decide +kernel
theorem dX7_heftAt_6 : decode cX7_heftAt 6 = .ok (.iload_n 1, 1) := by decide +kernel
theorem dX7_heftAt_7 : decode cX7_heftAt 7 = .ok (.iadd, 1) := by decide +kernel
theorem dX7_heftAt_8 : decode cX7_heftAt 8 = .ok (.iaload, 1) := by decide +kernel
theorem dX7_heftAt_9 : decode cX7_heftAt 9 = .ok (.ifCond .ge 7, 3) := by decide +kernel
theorem dX7_heftAt_12 : decode cX7_heftAt 12 = .ok (.iconst 0, 1) := by decide +kernel
theorem dX7_heftAt_13 : decode cX7_heftAt 13 = .ok (.goto 20, 3) := by decide +kernel
theorem dX7_heftAt_16 : decode cX7_heftAt 16 = .ok (.aload_n 0, 1) := by decide +kernel
theorem dX7_heftAt_17 : decode cX7_heftAt 17 = .ok (.getfield 19, 3) := by decide +kernel
theorem dX7_heftAt_20 : decode cX7_heftAt 20 = .ok (.aload_n 0, 1) := by decide +kernel
theorem dX7_heftAt_21 : decode cX7_heftAt 21 = .ok (.getfield 19, 3) := by decide +kernel
theorem dX7_heftAt_24 : decode cX7_heftAt 24 = .ok (.bipush 36, 2) := by decide +kernel
theorem dX7_heftAt_26 : decode cX7_heftAt 26 = .ok (.iload_n 1, 1) := by decide +kernel
theorem dX7_heftAt_27 : decode cX7_heftAt 27 = .ok (.iadd, 1) := by decide +kernel
theorem dX7_heftAt_28 : decode cX7_heftAt 28 = .ok (.iaload, 1) := by decide +kernel
theorem dX7_heftAt_29 : decode cX7_heftAt 29 = .ok (.iconst 4, 1) := by decide +kernel
theorem dX7_heftAt_30 : decode cX7_heftAt 30 = .ok (.invokestatic 155, 3) := by decide +kernel
theorem dX7_heftAt_33 : decode cX7_heftAt 33 = .ok (.ireturn, 1) := by decide +kernel
theorem dX7_share_0 : decode cX7_share 0 = .ok (.aload_n 0, 1) := by decide +kernel
theorem dX7_share_1 : decode cX7_share 1 = .ok (.iconst 0, 1) := by decide +kernel
theorem dX7_share_2 : decode cX7_share 2 = .ok (.putfield 53, 3) := by decide +kernel
theorem dX7_share_5 : decode cX7_share 5 = .ok (.aload_n 0, 1) := by decide +kernel
theorem dX7_share_6 : decode cX7_share 6 = .ok (.iload_n 1, 1) := by decide +kernel
theorem dX7_share_7 : decode cX7_share 7 = .ok (.invokevirtual 201, 3) := by decide +kernel
theorem dX7_share_10 : decode cX7_share 10 = .ok (.ifCond .eq 15, 3) := by decide +kernel
theorem dX7_share_13 : decode cX7_share 13 = .ok (.iload_n 2, 1) := by decide +kernel
theorem dX7_share_14 : decode cX7_share 14 = .ok (.i2l, 1) := by decide +kernel
theorem dX7_share_15 : decode cX7_share 15 = .ok (.lconst 0, 1) := by decide +kernel
theorem dX7_share_16 : decode cX7_share 16 = .ok (.ldc2_w 249, 3) := by decide +kernel
theorem dX7_share_19 : decode cX7_share 19 = .ok (.invokestatic 63, 3) := by decide +kernel
theorem dX7_share_22 : decode cX7_share 22 = .ok (.ifCond .ne 6, 3) := by decide +kernel
theorem dX7_share_25 : decode cX7_share 25 = .ok (.ldc 73, 2) := by decide +kernel
theorem dX7_share_27 : decode cX7_share 27 = .ok (.ireturn, 1) := by decide +kernel
theorem dX7_share_28 : decode cX7_share 28 = .ok (.aload_n 0, 1) := by decide +kernel
theorem dX7_share_29 : decode cX7_share 29 = .ok (.getfield 19, 3) := by decide +kernel
theorem dX7_share_32 : decode cX7_share 32 = .ok (.iconst 0, 1) := by decide +kernel
theorem dX7_share_33 : decode cX7_share 33 = .ok (.invokestatic 175, 3) := by decide +kernel
theorem dX7_share_36 : decode cX7_share 36 = .ok (.istore_n 3, 1) := by decide +kernel
theorem dX7_share_37 : decode cX7_share 37 = .ok (.aload_n 0, 1) := by decide +kernel
theorem dX7_share_38 : decode cX7_share 38 = .ok (.iload_n 1, 1) := by decide +kernel
theorem dX7_share_39 : decode cX7_share 39 = .ok (.invokevirtual 251, 3) := by decide +kernel
theorem dX7_share_42 : decode cX7_share 42 = .ok (.istore 4, 2) := by decide +kernel
theorem dX7_share_44 : decode cX7_share 44 = .ok (.iload 4, 2) := by decide +kernel
theorem dX7_share_46 : decode cX7_share 46 = .ok (.ifCond .ne 5, 3) := by decide +kernel
theorem dX7_share_49 : decode cX7_share 49 = .ok (.iconst 0, 1) := by decide +kernel
theorem dX7_share_50 : decode cX7_share 50 = .ok (.ireturn, 1) := by decide +kernel
theorem dX7_share_51 : decode cX7_share 51 = .ok (.iload_n 2, 1) := by decide +kernel
theorem dX7_share_52 : decode cX7_share 52 = .ok (.istore 5, 2) := by decide +kernel
theorem dX7_share_54 : decode cX7_share 54 = .ok (.iconst 0, 1) := by decide +kernel
theorem dX7_share_55 : decode cX7_share 55 = .ok (.istore 6, 2) := by decide +kernel
theorem dX7_share_57 : decode cX7_share 57 = .ok (.iconst 0, 1) := by decide +kernel
theorem dX7_share_58 : decode cX7_share 58 = .ok (.istore 7, 2) := by decide +kernel
theorem dX7_share_60 : decode cX7_share 60 = .ok (.iload 7, 2) := by decide +kernel
theorem dX7_share_62 : decode cX7_share 62 = .ok (.aload_n 0, 1) := by decide +kernel
theorem dX7_share_63 : decode cX7_share 63 = .ok (.getfield 19, 3) := by decide +kernel
theorem dX7_share_66 : decode cX7_share 66 = .ok (.iconst 0, 1) := by decide +kernel
theorem dX7_share_67 : decode cX7_share 67 = .ok (.iaload, 1) := by decide +kernel
theorem dX7_share_68 : decode cX7_share 68 = .ok (.if_icmp .ge 49, 3) := by decide +kernel
theorem dX7_share_71 : decode cX7_share 71 = .ok (.iload 5, 2) := by decide +kernel
theorem dX7_share_73 : decode cX7_share 73 = .ok (.iload_n 2, 1) := by decide +kernel
theorem dX7_share_74 : decode cX7_share 74 = .ok (.aload_n 0, 1) := by decide +kernel
theorem dX7_share_75 : decode cX7_share 75 = .ok (.iload 7, 2) := by decide +kernel
theorem dX7_share_77 : decode cX7_share 77 = .ok (.invokevirtual 251, 3) := by decide +kernel
theorem dX7_share_80 : decode cX7_share 80 = .ok (.imul, 1) := by decide +kernel
theorem dX7_share_81 : decode cX7_share 81 = .ok (.iload_n 3, 1) := by decide +kernel
theorem dX7_share_82 : decode cX7_share 82 = .ok (.idiv, 1) := by decide +kernel
theorem dX7_share_83 : decode cX7_share 83 = .ok (.isub, 1) := by decide +kernel
theorem dX7_share_84 : decode cX7_share 84 = .ok (.istore 5, 2) := by decide +kernel
theorem dX7_share_86 : decode cX7_share 86 = .ok (.iload 6, 2) := by decide +kernel
theorem dX7_share_88 : decode cX7_share 88 = .ok (.iload 7, 2) := by decide +kernel
theorem dX7_share_90 : decode cX7_share 90 = .ok (.iload_n 1, 1) := by decide +kernel
theorem dX7_share_91 : decode cX7_share 91 = .ok (.if_icmp .ge 16, 3) := by decide +kernel
theorem dX7_share_94 : decode cX7_share 94 = .ok (.aload_n 0, 1) := by decide +kernel
theorem dX7_share_95 : decode cX7_share 95 = .ok (.iload 7, 2) := by decide +kernel
theorem dX7_share_97 : decode cX7_share 97 = .ok (.invokevirtual 251, 3) := by decide +kernel
theorem dX7_share_100 : decode cX7_share 100 = .ok (.ifCond .le 7, 3) := by decide +kernel
theorem dX7_share_103 : decode cX7_share 103 = .ok (.iconst 1, 1) := by decide +kernel
theorem dX7_share_104 : decode cX7_share 104 = .ok (.goto 4, 3) := by decide +kernel
theorem dX7_share_107 : decode cX7_share 107 = .ok (.iconst 0, 1) := by decide +kernel
theorem dX7_share_108 : decode cX7_share 108 = .ok (.iadd, 1) := by decide +kernel
theorem dX7_share_109 : decode cX7_share 109 = .ok (.istore 6, 2) := by decide +kernel
theorem dX7_share_111 : decode cX7_share 111 = .ok (.iinc 7 1, 3) := by decide +kernel
theorem dX7_share_114 : decode cX7_share 114 = .ok (.goto (-54), 3) := by decide +kernel
theorem dX7_share_117 : decode cX7_share 117 = .ok (.iload_n 2, 1) := by decide +kernel
theorem dX7_share_118 : decode cX7_share 118 = .ok (.iload 4, 2) := by decide +kernel
theorem dX7_share_120 : decode cX7_share 120 = .ok (.imul, 1) := by decide +kernel
theorem dX7_share_121 : decode cX7_share 121 = .ok (.iload_n 3, 1) := by decide +kernel
theorem dX7_share_122 : decode cX7_share 122 = .ok (.idiv, 1) := by decide +kernel
theorem dX7_share_123 : decode cX7_share 123 = .ok (.iload 6, 2) := by decide +kernel
theorem dX7_share_125 : decode cX7_share 125 = .ok (.iload 5, 2) := by decide +kernel
theorem dX7_share_127 : decode cX7_share 127 = .ok (.if_icmp .ge 7, 3) := by decide +kernel
theorem dX7_share_130 : decode cX7_share 130 = .ok (.iconst 1, 1) := by decide +kernel
theorem dX7_share_131 : decode cX7_share 131 = .ok (.goto 4, 3) := by decide +kernel
theorem dX7_share_134 : decode cX7_share 134 = .ok (.iconst 0, 1) := by decide +kernel
theorem dX7_share_135 : decode cX7_share 135 = .ok (.iadd, 1) := by decide +kernel
theorem dX7_share_136 : decode cX7_share 136 = .ok (.ireturn, 1) := by decide +kernel
theorem dX7_bestTurn_0 : decode cX7_bestTurn 0 = .ok (.ldc 96, 2) := by decide +kernel
theorem dX7_bestTurn_2 : decode cX7_bestTurn 2 = .ok (.istore_n 3, 1) := by decide +kernel
theorem dX7_bestTurn_3 : decode cX7_bestTurn 3 = .ok (.iconst 0, 1) := by decide +kernel
theorem dX7_bestTurn_4 : decode cX7_bestTurn 4 = .ok (.istore 4, 2) := by decide +kernel
theorem dX7_bestTurn_6 : decode cX7_bestTurn 6 = .ok (.iload 4, 2) := by decide +kernel
theorem dX7_bestTurn_8 : decode cX7_bestTurn 8 = .ok (.aload_n 0, 1) := by decide +kernel
theorem dX7_bestTurn_9 : decode cX7_bestTurn 9 = .ok (.getfield 19, 3) := by decide +kernel
theorem dX7_bestTurn_12 : decode cX7_bestTurn 12 = .ok (.iconst 5, 1) := by decide +kernel
theorem dX7_bestTurn_13 : decode cX7_bestTurn 13 = .ok (.iaload, 1) := by decide +kernel
theorem dX7_bestTurn_14 : decode cX7_bestTurn 14 = .ok (.if_icmp .ge 120, 3) := by decide +kernel
theorem dX7_bestTurn_17 : decode cX7_bestTurn 17 = .ok (.iload_n 2, 1) := by decide +kernel
theorem dX7_bestTurn_18 : decode cX7_bestTurn 18 = .ok (.aload_n 0, 1) := by decide +kernel
theorem dX7_bestTurn_19 : decode cX7_bestTurn 19 = .ok (.getfield 19, 3) := by decide +kernel
theorem dX7_bestTurn_22 : decode cX7_bestTurn 22 = .ok (.iload 4, 2) := by decide +kernel
theorem dX7_bestTurn_24 : decode cX7_bestTurn 24 = .ok (.iconst 4, 1) := by decide +kernel
theorem dX7_bestTurn_25 : decode cX7_bestTurn 25 = .ok (.invokestatic 155, 3) := by decide +kernel
theorem dX7_bestTurn_28 : decode cX7_bestTurn 28 = .ok (.iadd, 1) := by decide +kernel
theorem dX7_bestTurn_29 : decode cX7_bestTurn 29 = .ok (.istore 5, 2) := by decide +kernel
theorem dX7_bestTurn_31 : decode cX7_bestTurn 31 = .ok (.aload_n 0, 1) := by decide +kernel
theorem dX7_bestTurn_32 : decode cX7_bestTurn 32 = .ok (.getfield 19, 3) := by decide +kernel
theorem dX7_bestTurn_35 : decode cX7_bestTurn 35 = .ok (.aload_n 0, 1) := by decide +kernel
theorem dX7_bestTurn_36 : decode cX7_bestTurn 36 = .ok (.getfield 19, 3) := by decide +kernel
theorem dX7_bestTurn_39 : decode cX7_bestTurn 39 = .ok (.iconst 0, 1) := by decide +kernel
theorem dX7_bestTurn_40 : decode cX7_bestTurn 40 = .ok (.iaload, 1) := by decide +kernel
theorem dX7_bestTurn_41 : decode cX7_bestTurn 41 = .ok (.iconst 1, 1) := by decide +kernel
theorem dX7_bestTurn_42 : decode cX7_bestTurn 42 = .ok (.isub, 1) := by decide +kernel
theorem dX7_bestTurn_43 : decode cX7_bestTurn 43 = .ok (.iload_n 1, 1) := by decide +kernel
theorem dX7_bestTurn_44 : decode cX7_bestTurn 44 = .ok (.isub, 1) := by decide +kernel
theorem dX7_bestTurn_45 : decode cX7_bestTurn 45 = .ok (.iload 4, 2) := by decide +kernel
theorem dX7_bestTurn_47 : decode cX7_bestTurn 47 = .ok (.iload 5, 2) := by decide +kernel
theorem dX7_bestTurn_49 : decode cX7_bestTurn 49 = .ok (.invokestatic 178, 3) := by decide +kernel
theorem dX7_bestTurn_52 : decode cX7_bestTurn 52 = .ok (.ifCond .eq 76, 3) := by decide +kernel
theorem dX7_bestTurn_55 : decode cX7_bestTurn 55 = .ok (.aload_n 0, 1) := by decide +kernel
theorem dX7_bestTurn_56 : decode cX7_bestTurn 56 = .ok (.getfield 19, 3) := by decide +kernel
theorem dX7_bestTurn_59 : decode cX7_bestTurn 59 = .ok (.iload 4, 2) := by decide +kernel
theorem dX7_bestTurn_61 : decode cX7_bestTurn 61 = .ok (.iconst 5, 1) := by decide +kernel
theorem dX7_bestTurn_62 : decode cX7_bestTurn 62 = .ok (.invokestatic 155, 3) := by decide +kernel
theorem dX7_bestTurn_65 : decode cX7_bestTurn 65 = .ok (.aload_n 0, 1) := by decide +kernel
theorem dX7_bestTurn_66 : decode cX7_bestTurn 66 = .ok (.getfield 40, 3) := by decide +kernel
theorem dX7_bestTurn_69 : decode cX7_bestTurn 69 = .ok (.bipush 40, 2) := by decide +kernel
theorem dX7_bestTurn_71 : decode cX7_bestTurn 71 = .ok (.iload_n 1, 1) := by decide +kernel
theorem dX7_bestTurn_72 : decode cX7_bestTurn 72 = .ok (.iconst 1, 1) := by decide +kernel
theorem dX7_bestTurn_73 : decode cX7_bestTurn 73 = .ok (.iadd, 1) := by decide +kernel
theorem dX7_bestTurn_74 : decode cX7_bestTurn 74 = .ok (.imul, 1) := by decide +kernel
theorem dX7_bestTurn_75 : decode cX7_bestTurn 75 = .ok (.iload 5, 2) := by decide +kernel
theorem dX7_bestTurn_77 : decode cX7_bestTurn 77 = .ok (.iadd, 1) := by decide +kernel
theorem dX7_bestTurn_78 : decode cX7_bestTurn 78 = .ok (.iaload, 1) := by decide +kernel
theorem dX7_bestTurn_79 : decode cX7_bestTurn 79 = .ok (.iadd, 1) := by decide +kernel
theorem dX7_bestTurn_80 : decode cX7_bestTurn 80 = .ok (.istore 6, 2) := by decide +kernel
theorem dX7_bestTurn_82 : decode cX7_bestTurn 82 = .ok (.iload_n 3, 1) := by decide +kernel
theorem dX7_bestTurn_83 : decode cX7_bestTurn 83 = .ok (.ldc 96, 2) := by decide +kernel
theorem dX7_bestTurn_85 : decode cX7_bestTurn 85 = .ok (.if_icmp .eq 24, 3) := by decide +kernel
theorem dX7_bestTurn_88 : decode cX7_bestTurn 88 = .ok (.iload_n 1, 1) := by decide +kernel
theorem dX7_bestTurn_89 : decode cX7_bestTurn 89 = .ok (.iconst 2, 1) := by decide +kernel
theorem dX7_bestTurn_90 : decode cX7_bestTurn 90 = .ok (.irem, 1) := by decide +kernel
theorem dX7_bestTurn_91 : decode cX7_bestTurn 91 = .ok (.ifCond .ne 12, 3) := by decide +kernel
theorem dX7_bestTurn_94 : decode cX7_bestTurn 94 = .ok (.iload 6, 2) := by decide +kernel
theorem dX7_bestTurn_96 : decode cX7_bestTurn 96 = .ok (.iload_n 3, 1) := by decide +kernel
theorem dX7_bestTurn_97 : decode cX7_bestTurn 97 = .ok (.if_icmp .ge 16, 3) := by decide +kernel
theorem dX7_bestTurn_100 : decode cX7_bestTurn 100 = .ok (.goto 9, 3) := by decide +kernel
theorem dX7_bestTurn_103 : decode cX7_bestTurn 103 = .ok (.iload 6, 2) := by decide +kernel
theorem dX7_bestTurn_105 : decode cX7_bestTurn 105 = .ok (.iload_n 3, 1) := by decide +kernel
theorem dX7_bestTurn_106 : decode cX7_bestTurn 106 = .ok (.if_icmp .le 7, 3) := by decide +kernel
theorem dX7_bestTurn_109 : decode cX7_bestTurn 109 = .ok (.iconst 1, 1) := by decide +kernel
theorem dX7_bestTurn_110 : decode cX7_bestTurn 110 = .ok (.goto 4, 3) := by decide +kernel
theorem dX7_bestTurn_113 : decode cX7_bestTurn 113 = .ok (.iconst 0, 1) := by decide +kernel
theorem dX7_bestTurn_114 : decode cX7_bestTurn 114 = .ok (.istore 7, 2) := by decide +kernel
theorem dX7_bestTurn_116 : decode cX7_bestTurn 116 = .ok (.iload 7, 2) := by decide +kernel
theorem dX7_bestTurn_118 : decode cX7_bestTurn 118 = .ok (.ifCond .eq 8, 3) := by decide +kernel
theorem dX7_bestTurn_121 : decode cX7_bestTurn 121 = .ok (.iload 6, 2) := by decide +kernel
theorem dX7_bestTurn_123 : decode cX7_bestTurn 123 = .ok (.goto 4, 3) := by decide +kernel
theorem dX7_bestTurn_126 : decode cX7_bestTurn 126 = .ok (.iload_n 3, 1) := by decide +kernel
theorem dX7_bestTurn_127 : decode cX7_bestTurn 127 = .ok (.istore_n 3, 1) := by decide +kernel
theorem dX7_bestTurn_128 : decode cX7_bestTurn 128 = .ok (.iinc 4 1, 3) := by decide +kernel
theorem dX7_bestTurn_131 : decode cX7_bestTurn 131 = .ok (.goto (-125), 3) := by decide +kernel
theorem dX7_bestTurn_134 : decode cX7_bestTurn 134 = .ok (.iload_n 3, 1) := by decide +kernel
theorem dX7_bestTurn_135 : decode cX7_bestTurn 135 = .ok (.ldc 96, 2) := by decide +kernel
theorem dX7_bestTurn_137 : decode cX7_bestTurn 137 = .ok (.if_icmp .ne 7, 3) := by decide +kernel
theorem dX7_bestTurn_140 : decode cX7_bestTurn 140 = .ok (.iconst 0, 1) := by decide +kernel
theorem dX7_bestTurn_141 : decode cX7_bestTurn 141 = .ok (.goto 4, 3) := by decide +kernel
theorem dX7_bestTurn_144 : decode cX7_bestTurn 144 = .ok (.iload_n 3, 1) := by decide +kernel
theorem dX7_bestTurn_145 : decode cX7_bestTurn 145 = .ok (.ireturn, 1) := by decide +kernel
theorem dX7_byTurns_0 : decode cX7_byTurns 0 = .ok (.aload_n 0, 1) := by decide +kernel
theorem dX7_byTurns_1 : decode cX7_byTurns 1 = .ok (.iconst 0, 1) := by decide +kernel
theorem dX7_byTurns_2 : decode cX7_byTurns 2 = .ok (.putfield 53, 3) := by decide +kernel
theorem dX7_byTurns_5 : decode cX7_byTurns 5 = .ok (.aload_n 0, 1) := by decide +kernel
theorem dX7_byTurns_6 : decode cX7_byTurns 6 = .ok (.invokevirtual 211, 3) := by decide +kernel
theorem dX7_byTurns_9 : decode cX7_byTurns 9 = .ok (.ifCond .ne 6, 3) := by decide +kernel
theorem dX7_byTurns_12 : decode cX7_byTurns 12 = .ok (.ldc 207, 2) := by decide +kernel
theorem dX7_byTurns_14 : decode cX7_byTurns 14 = .ok (.ireturn, 1) := by decide +kernel
theorem dX7_byTurns_15 : decode cX7_byTurns 15 = .ok (.iload_n 1, 1) := by decide +kernel
theorem dX7_byTurns_16 : decode cX7_byTurns 16 = .ok (.i2l, 1) := by decide +kernel
theorem dX7_byTurns_17 : decode cX7_byTurns 17 = .ok (.lconst 0, 1) := by decide +kernel
theorem dX7_byTurns_18 : decode cX7_byTurns 18 = .ok (.ldc2_w 227, 3) := by decide +kernel
theorem dX7_byTurns_21 : decode cX7_byTurns 21 = .ok (.invokestatic 63, 3) := by decide +kernel
theorem dX7_byTurns_24 : decode cX7_byTurns 24 = .ok (.ifCond .eq 13, 3) := by decide +kernel
theorem dX7_byTurns_27 : decode cX7_byTurns 27 = .ok (.iload_n 1, 1) := by decide +kernel
theorem dX7_byTurns_28 : decode cX7_byTurns 28 = .ok (.aload_n 0, 1) := by decide +kernel
theorem dX7_byTurns_29 : decode cX7_byTurns 29 = .ok (.getfield 19, 3) := by decide +kernel
theorem dX7_byTurns_32 : decode cX7_byTurns 32 = .ok (.iconst 0, 1) := by decide +kernel
theorem dX7_byTurns_33 : decode cX7_byTurns 33 = .ok (.iaload, 1) := by decide +kernel
theorem dX7_byTurns_34 : decode cX7_byTurns 34 = .ok (.if_icmp .le 6, 3) := by decide +kernel
theorem dX7_byTurns_37 : decode cX7_byTurns 37 = .ok (.ldc 73, 2) := by decide +kernel
theorem dX7_byTurns_39 : decode cX7_byTurns 39 = .ok (.ireturn, 1) := by decide +kernel
theorem dX7_byTurns_40 : decode cX7_byTurns 40 = .ok (.iconst 0, 1) := by decide +kernel
theorem dX7_byTurns_41 : decode cX7_byTurns 41 = .ok (.istore_n 2, 1) := by decide +kernel
theorem dX7_byTurns_42 : decode cX7_byTurns 42 = .ok (.iload_n 2, 1) := by decide +kernel
theorem dX7_byTurns_43 : decode cX7_byTurns 43 = .ok (.bipush 40, 2) := by decide +kernel
theorem dX7_byTurns_45 : decode cX7_byTurns 45 = .ok (.if_icmp .ge 21, 3) := by decide +kernel
theorem dX7_byTurns_48 : decode cX7_byTurns 48 = .ok (.aload_n 0, 1) := by decide +kernel
theorem dX7_byTurns_49 : decode cX7_byTurns 49 = .ok (.getfield 40, 3) := by decide +kernel
theorem dX7_byTurns_52 : decode cX7_byTurns 52 = .ok (.bipush 40, 2) := by decide +kernel
theorem dX7_byTurns_54 : decode cX7_byTurns 54 = .ok (.iload_n 1, 1) := by decide +kernel
theorem dX7_byTurns_55 : decode cX7_byTurns 55 = .ok (.imul, 1) := by decide +kernel
theorem dX7_byTurns_56 : decode cX7_byTurns 56 = .ok (.iload_n 2, 1) := by decide +kernel
theorem dX7_byTurns_57 : decode cX7_byTurns 57 = .ok (.iadd, 1) := by decide +kernel
theorem dX7_byTurns_58 : decode cX7_byTurns 58 = .ok (.iconst 0, 1) := by decide +kernel
theorem dX7_byTurns_59 : decode cX7_byTurns 59 = .ok (.iastore, 1) := by decide +kernel
theorem dX7_byTurns_60 : decode cX7_byTurns 60 = .ok (.iinc 2 1, 3) := by decide +kernel
theorem dX7_byTurns_63 : decode cX7_byTurns 63 = .ok (.goto (-21), 3) := by decide +kernel
theorem dX7_byTurns_66 : decode cX7_byTurns 66 = .ok (.iload_n 1, 1) := by decide +kernel
theorem dX7_byTurns_67 : decode cX7_byTurns 67 = .ok (.iconst 1, 1) := by decide +kernel
theorem dX7_byTurns_68 : decode cX7_byTurns 68 = .ok (.isub, 1) := by decide +kernel
theorem dX7_byTurns_69 : decode cX7_byTurns 69 = .ok (.istore_n 2, 1) := by decide +kernel
theorem dX7_byTurns_70 : decode cX7_byTurns 70 = .ok (.iload_n 2, 1) := by decide +kernel
theorem dX7_byTurns_71 : decode cX7_byTurns 71 = .ok (.ifCond .lt 42, 3) := by decide +kernel
theorem dX7_byTurns_74 : decode cX7_byTurns 74 = .ok (.iconst 0, 1) := by decide +kernel
theorem dX7_byTurns_75 : decode cX7_byTurns 75 = .ok (.istore_n 3, 1) := by decide +kernel
theorem dX7_byTurns_76 : decode cX7_byTurns 76 = .ok (.iload_n 3, 1) := by decide +kernel
theorem dX7_byTurns_77 : decode cX7_byTurns 77 = .ok (.bipush 9, 2) := by decide +kernel
theorem dX7_byTurns_79 : decode cX7_byTurns 79 = .ok (.iload_n 2, 1) := by decide +kernel
theorem dX7_byTurns_80 : decode cX7_byTurns 80 = .ok (.imul, 1) := by decide +kernel
theorem dX7_byTurns_81 : decode cX7_byTurns 81 = .ok (.if_icmp .gt 26, 3) := by decide +kernel
theorem dX7_byTurns_84 : decode cX7_byTurns 84 = .ok (.aload_n 0, 1) := by decide +kernel
theorem dX7_byTurns_85 : decode cX7_byTurns 85 = .ok (.getfield 40, 3) := by decide +kernel
theorem dX7_byTurns_88 : decode cX7_byTurns 88 = .ok (.bipush 40, 2) := by decide +kernel
theorem dX7_byTurns_90 : decode cX7_byTurns 90 = .ok (.iload_n 2, 1) := by decide +kernel
theorem dX7_byTurns_91 : decode cX7_byTurns 91 = .ok (.imul, 1) := by decide +kernel
theorem dX7_byTurns_92 : decode cX7_byTurns 92 = .ok (.iload_n 3, 1) := by decide +kernel
theorem dX7_byTurns_93 : decode cX7_byTurns 93 = .ok (.iadd, 1) := by decide +kernel
theorem dX7_byTurns_94 : decode cX7_byTurns 94 = .ok (.aload_n 0, 1) := by decide +kernel
theorem dX7_byTurns_95 : decode cX7_byTurns 95 = .ok (.iload_n 2, 1) := by decide +kernel
theorem dX7_byTurns_96 : decode cX7_byTurns 96 = .ok (.iload_n 3, 1) := by decide +kernel
theorem dX7_byTurns_97 : decode cX7_byTurns 97 = .ok (.invokevirtual 254, 3) := by decide +kernel
theorem dX7_byTurns_100 : decode cX7_byTurns 100 = .ok (.iastore, 1) := by decide +kernel
theorem dX7_byTurns_101 : decode cX7_byTurns 101 = .ok (.iinc 3 1, 3) := by decide +kernel
theorem dX7_byTurns_104 : decode cX7_byTurns 104 = .ok (.goto (-28), 3) := by decide +kernel
theorem dX7_byTurns_107 : decode cX7_byTurns 107 = .ok (.iinc 2 (-1), 3) := by decide +kernel
theorem dX7_byTurns_110 : decode cX7_byTurns 110 = .ok (.goto (-40), 3) := by decide +kernel
theorem dX7_byTurns_113 : decode cX7_byTurns 113 = .ok (.aload_n 0, 1) := by decide +kernel
theorem dX7_byTurns_114 : decode cX7_byTurns 114 = .ok (.getfield 40, 3) := by decide +kernel
theorem dX7_byTurns_117 : decode cX7_byTurns 117 = .ok (.iconst 0, 1) := by decide +kernel
theorem dX7_byTurns_118 : decode cX7_byTurns 118 = .ok (.iaload, 1) := by decide +kernel
theorem dX7_byTurns_119 : decode cX7_byTurns 119 = .ok (.ireturn, 1) := by decide +kernel
theorem dX7_rowFound_0 : decode cX7_rowFound 0 = .ok (.aload_n 0, 1) := by decide +kernel
theorem dX7_rowFound_1 : decode cX7_rowFound 1 = .ok (.getfield 7, 3) := by decide +kernel
theorem dX7_rowFound_4 : decode cX7_rowFound 4 = .ok (.iload_n 1, 1) := by decide +kernel
theorem dX7_rowFound_5 : decode cX7_rowFound 5 = .ok (.iaload, 1) := by decide +kernel
theorem dX7_rowFound_6 : decode cX7_rowFound 6 = .ok (.ifCond .ge 9, 3) := by decide +kernel
theorem dX7_rowFound_9 : decode cX7_rowFound 9 = .ok (.aload_n 0, 1) := by decide +kernel
theorem dX7_rowFound_10 : decode cX7_rowFound 10 = .ok (.iconst 1, 1) := by decide +kernel
theorem dX7_rowFound_11 : decode cX7_rowFound 11 = .ok (.invokevirtual 74, 3) := by decide +kernel
theorem dX7_rowFound_14 : decode cX7_rowFound 14 = .ok (.ireturn, 1) := by decide +kernel
theorem dX7_rowFound_15 : decode cX7_rowFound 15 = .ok (.iload_n 2, 1) := by decide +kernel
theorem dX7_rowFound_16 : decode cX7_rowFound 16 = .ok (.ifCond .lt 19, 3) := by decide +kernel
theorem dX7_rowFound_19 : decode cX7_rowFound 19 = .ok (.iload_n 2, 1) := by decide +kernel
theorem dX7_rowFound_20 : decode cX7_rowFound 20 = .ok (.i2l, 1) := by decide +kernel
theorem dX7_rowFound_21 : decode cX7_rowFound 21 = .ok (.iload_n 3, 1) := by decide +kernel
theorem dX7_rowFound_22 : decode cX7_rowFound 22 = .ok (.i2l, 1) := by decide +kernel
theorem dX7_rowFound_23 : decode cX7_rowFound 23 = .ok (.ladd, 1) := by decide +kernel
theorem dX7_rowFound_24 : decode cX7_rowFound 24 = .ok (.aload_n 0, 1) := by decide +kernel
theorem dX7_rowFound_25 : decode cX7_rowFound 25 = .ok (.getfield 13, 3) := by decide +kernel
theorem dX7_rowFound_28 : decode cX7_rowFound 28 = .ok (.iload_n 1, 1) := by decide +kernel
theorem dX7_rowFound_29 : decode cX7_rowFound 29 = .ok (.iaload, 1) := by decide +kernel
theorem dX7_rowFound_30 : decode cX7_rowFound 30 = .ok (.i2l, 1) := by decide +kernel
theorem dX7_rowFound_31 : decode cX7_rowFound 31 = .ok (.lcmp, 1) := by decide +kernel
theorem dX7_rowFound_32 : decode cX7_rowFound 32 = .ok (.ifCond .le 9, 3) := by decide +kernel
theorem dX7_rowFound_35 : decode cX7_rowFound 35 = .ok (.aload_n 0, 1) := by decide +kernel
theorem dX7_rowFound_36 : decode cX7_rowFound 36 = .ok (.iconst 2, 1) := by decide +kernel
theorem dX7_rowFound_37 : decode cX7_rowFound 37 = .ok (.invokevirtual 74, 3) := by decide +kernel
theorem dX7_rowFound_40 : decode cX7_rowFound 40 = .ok (.ireturn, 1) := by decide +kernel
theorem dX7_rowFound_41 : decode cX7_rowFound 41 = .ok (.aload_n 0, 1) := by decide +kernel
theorem dX7_rowFound_42 : decode cX7_rowFound 42 = .ok (.iconst 0, 1) := by decide +kernel
theorem dX7_rowFound_43 : decode cX7_rowFound 43 = .ok (.putfield 57, 3) := by decide +kernel
theorem dX7_rowFound_46 : decode cX7_rowFound 46 = .ok (.iconst 0, 1) := by decide +kernel
theorem dX7_rowFound_47 : decode cX7_rowFound 47 = .ok (.ireturn, 1) := by decide +kernel
theorem dX7_who_0 : decode cX7_who 0 = .ok (.aload_n 0, 1) := by decide +kernel
theorem dX7_who_1 : decode cX7_who 1 = .ok (.iconst 0, 1) := by decide +kernel
theorem dX7_who_2 : decode cX7_who 2 = .ok (.putfield 53, 3) := by decide +kernel
theorem dX7_who_5 : decode cX7_who 5 = .ok (.aload_n 0, 1) := by decide +kernel
theorem dX7_who_6 : decode cX7_who 6 = .ok (.iload_n 1, 1) := by decide +kernel
theorem dX7_who_7 : decode cX7_who 7 = .ok (.invokevirtual 204, 3) := by decide +kernel
theorem dX7_who_10 : decode cX7_who 10 = .ok (.ifCond .eq 20, 3) := by decide +kernel
theorem dX7_who_13 : decode cX7_who 13 = .ok (.iload_n 2, 1) := by decide +kernel
theorem dX7_who_14 : decode cX7_who 14 = .ok (.i2l, 1) := by decide +kernel
theorem dX7_who_15 : decode cX7_who 15 = .ok (.lconst 0, 1) := by decide +kernel
theorem dX7_who_16 : decode cX7_who 16 = .ok (.lconst 1, 1) := by decide +kernel
theorem dX7_who_17 : decode cX7_who 17 = .ok (.invokestatic 63, 3) := by decide +kernel
theorem dX7_who_20 : decode cX7_who 20 = .ok (.ifCond .eq 10, 3) := by decide +kernel
theorem dX7_who_23 : decode cX7_who 23 = .ok (.iload_n 3, 1) := by decide +kernel
theorem dX7_who_24 : decode cX7_who 24 = .ok (.invokestatic 67, 3) := by decide +kernel
theorem dX7_who_27 : decode cX7_who 27 = .ok (.ifCond .ne 6, 3) := by decide +kernel
theorem dX7_who_30 : decode cX7_who 30 = .ok (.ldc 73, 2) := by decide +kernel
theorem dX7_who_32 : decode cX7_who 32 = .ok (.ireturn, 1) := by decide +kernel
theorem dX7_who_33 : decode cX7_who 33 = .ok (.aload_n 0, 1) := by decide +kernel
theorem dX7_who_34 : decode cX7_who 34 = .ok (.iload_n 3, 1) := by decide +kernel
theorem dX7_who_35 : decode cX7_who 35 = .ok (.iload 4, 2) := by decide +kernel
theorem dX7_who_37 : decode cX7_who 37 = .ok (.aload_n 0, 1) := by decide +kernel
theorem dX7_who_38 : decode cX7_who 38 = .ok (.getfield 19, 3) := by decide +kernel
theorem dX7_who_41 : decode cX7_who 41 = .ok (.iconst 0, 1) := by decide +kernel
theorem dX7_who_42 : decode cX7_who 42 = .ok (.iaload, 1) := by decide +kernel
theorem dX7_who_43 : decode cX7_who 43 = .ok (.invokevirtual 257, 3) := by decide +kernel
theorem dX7_who_46 : decode cX7_who 46 = .ok (.istore 5, 2) := by decide +kernel
theorem dX7_who_48 : decode cX7_who 48 = .ok (.iload 5, 2) := by decide +kernel
theorem dX7_who_50 : decode cX7_who 50 = .ok (.ifCond .eq 6, 3) := by decide +kernel
theorem dX7_who_53 : decode cX7_who 53 = .ok (.iload 5, 2) := by decide +kernel
theorem dX7_who_55 : decode cX7_who 55 = .ok (.ireturn, 1) := by decide +kernel
theorem dX7_who_56 : decode cX7_who 56 = .ok (.iconst 0, 1) := by decide +kernel
theorem dX7_who_57 : decode cX7_who 57 = .ok (.istore 6, 2) := by decide +kernel
theorem dX7_who_59 : decode cX7_who 59 = .ok (.iconst 1, 1) := by decide +kernel
theorem dX7_who_60 : decode cX7_who 60 = .ok (.istore 7, 2) := by decide +kernel
theorem dX7_who_62 : decode cX7_who 62 = .ok (.iload 7, 2) := by decide +kernel
theorem dX7_who_64 : decode cX7_who 64 = .ok (.iload_n 2, 1) := by decide +kernel
theorem dX7_who_65 : decode cX7_who 65 = .ok (.ifCond .ne 7, 3) := by decide +kernel
theorem dX7_who_68 : decode cX7_who 68 = .ok (.iconst 5, 1) := by decide +kernel
theorem dX7_who_69 : decode cX7_who 69 = .ok (.goto 4, 3) := by decide +kernel
theorem dX7_who_72 : decode cX7_who 72 = .ok (.iconst 3, 1) := by decide +kernel
theorem dX7_who_73 : decode cX7_who 73 = .ok (.if_icmp .gt 133, 3) := by decide +kernel
theorem dX7_who_76 : decode cX7_who 76 = .ok (.aload_n 0, 1) := by decide +kernel
theorem dX7_who_77 : decode cX7_who 77 = .ok (.invokevirtual 237, 3) := by decide +kernel
theorem dX7_who_80 : decode cX7_who 80 = .ok (.aload_n 0, 1) := by decide +kernel
theorem dX7_who_81 : decode cX7_who 81 = .ok (.getfield 25, 3) := by decide +kernel
theorem dX7_who_84 : decode cX7_who 84 = .ok (.iload_n 2, 1) := by decide +kernel
theorem dX7_who_85 : decode cX7_who 85 = .ok (.ifCond .ne 15, 3) := by decide +kernel
theorem dX7_who_88 : decode cX7_who 88 = .ok (.bipush 6, 2) := by decide +kernel
theorem dX7_who_90 : decode cX7_who 90 = .ok (.bipush 6, 2) := by decide +kernel
theorem dX7_who_92 : decode cX7_who 92 = .ok (.iload_n 1, 1) := by decide +kernel
theorem dX7_who_93 : decode cX7_who 93 = .ok (.imul, 1) := by decide +kernel
theorem dX7_who_94 : decode cX7_who 94 = .ok (.iadd, 1) := by decide +kernel
theorem dX7_who_95 : decode cX7_who 95 = .ok (.iconst 0, 1) := by decide +kernel
theorem dX7_who_96 : decode cX7_who 96 = .ok (.iadd, 1) := by decide +kernel
theorem dX7_who_97 : decode cX7_who 97 = .ok (.goto 4, 3) := by decide +kernel
theorem dX7_who_100 : decode cX7_who 100 = .ok (.iconst 1, 1) := by decide +kernel
theorem dX7_who_101 : decode cX7_who 101 = .ok (.iload 7, 2) := by decide +kernel
theorem dX7_who_103 : decode cX7_who 103 = .ok (.iastore, 1) := by decide +kernel
theorem dX7_who_104 : decode cX7_who 104 = .ok (.aload_n 0, 1) := by decide +kernel
theorem dX7_who_105 : decode cX7_who 105 = .ok (.aload_n 0, 1) := by decide +kernel
theorem dX7_who_106 : decode cX7_who 106 = .ok (.getfield 25, 3) := by decide +kernel
theorem dX7_who_109 : decode cX7_who 109 = .ok (.iconst (-1), 1) := by decide +kernel
theorem dX7_who_110 : decode cX7_who 110 = .ok (.invokevirtual 214, 3) := by decide +kernel
theorem dX7_who_113 : decode cX7_who 113 = .ok (.ldc 189, 2) := by decide +kernel
theorem dX7_who_115 : decode cX7_who 115 = .ok (.if_icmp .ge 7, 3) := by decide +kernel
theorem dX7_who_118 : decode cX7_who 118 = .ok (.iconst 1, 1) := by decide +kernel
theorem dX7_who_119 : decode cX7_who 119 = .ok (.goto 4, 3) := by decide +kernel
theorem dX7_who_122 : decode cX7_who 122 = .ok (.iconst 0, 1) := by decide +kernel
theorem dX7_who_123 : decode cX7_who 123 = .ok (.istore 8, 2) := by decide +kernel
theorem dX7_who_125 : decode cX7_who 125 = .ok (.iconst 0, 1) := by decide +kernel
theorem dX7_who_126 : decode cX7_who 126 = .ok (.istore 9, 2) := by decide +kernel
theorem dX7_who_128 : decode cX7_who 128 = .ok (.iload 9, 2) := by decide +kernel
theorem dX7_who_130 : decode cX7_who 130 = .ok (.aload_n 0, 1) := by decide +kernel
theorem dX7_who_131 : decode cX7_who 131 = .ok (.getfield 19, 3) := by decide +kernel
theorem dX7_who_134 : decode cX7_who 134 = .ok (.iconst 0, 1) := by decide +kernel
theorem dX7_who_135 : decode cX7_who 135 = .ok (.iaload, 1) := by decide +kernel
theorem dX7_who_136 : decode cX7_who 136 = .ok (.if_icmp .ge 46, 3) := by decide +kernel
theorem dX7_who_139 : decode cX7_who 139 = .ok (.iload 8, 2) := by decide +kernel
theorem dX7_who_141 : decode cX7_who 141 = .ok (.ifCond .eq 32, 3) := by decide +kernel
theorem dX7_who_144 : decode cX7_who 144 = .ok (.aload_n 0, 1) := by decide +kernel
theorem dX7_who_145 : decode cX7_who 145 = .ok (.getfield 37, 3) := by decide +kernel
theorem dX7_who_148 : decode cX7_who 148 = .ok (.iload 9, 2) := by decide +kernel
theorem dX7_who_150 : decode cX7_who 150 = .ok (.iaload, 1) := by decide +kernel
theorem dX7_who_151 : decode cX7_who 151 = .ok (.aload_n 0, 1) := by decide +kernel
theorem dX7_who_152 : decode cX7_who 152 = .ok (.getfield 16, 3) := by decide +kernel
theorem dX7_who_155 : decode cX7_who 155 = .ok (.bipush 40, 2) := by decide +kernel
theorem dX7_who_157 : decode cX7_who 157 = .ok (.iload_n 3, 1) := by decide +kernel
theorem dX7_who_158 : decode cX7_who 158 = .ok (.imul, 1) := by decide +kernel
theorem dX7_who_159 : decode cX7_who 159 = .ok (.iload 4, 2) := by decide +kernel
theorem dX7_who_161 : decode cX7_who 161 = .ok (.iadd, 1) := by decide +kernel
theorem dX7_who_162 : decode cX7_who 162 = .ok (.iload 9, 2) := by decide +kernel
theorem dX7_who_164 : decode cX7_who 164 = .ok (.iadd, 1) := by decide +kernel
theorem dX7_who_165 : decode cX7_who 165 = .ok (.iaload, 1) := by decide +kernel
theorem dX7_who_166 : decode cX7_who 166 = .ok (.if_icmp .ne 7, 3) := by decide +kernel
theorem dX7_who_169 : decode cX7_who 169 = .ok (.iconst 1, 1) := by decide +kernel
theorem dX7_who_170 : decode cX7_who 170 = .ok (.goto 4, 3) := by decide +kernel
theorem dX7_who_173 : decode cX7_who 173 = .ok (.iconst 0, 1) := by decide +kernel
theorem dX7_who_174 : decode cX7_who 174 = .ok (.istore 8, 2) := by decide +kernel
theorem dX7_who_176 : decode cX7_who 176 = .ok (.iinc 9 1, 3) := by decide +kernel
theorem dX7_who_179 : decode cX7_who 179 = .ok (.goto (-51), 3) := by decide +kernel
theorem dX7_who_182 : decode cX7_who 182 = .ok (.iload 6, 2) := by decide +kernel
theorem dX7_who_184 : decode cX7_who 184 = .ok (.iload 8, 2) := by decide +kernel
theorem dX7_who_186 : decode cX7_who 186 = .ok (.ifCond .eq 10, 3) := by decide +kernel
theorem dX7_who_189 : decode cX7_who 189 = .ok (.iconst 1, 1) := by decide +kernel
theorem dX7_who_190 : decode cX7_who 190 = .ok (.iload 7, 2) := by decide +kernel
theorem dX7_who_192 : decode cX7_who 192 = .ok (.ishl, 1) := by decide +kernel
theorem dX7_who_193 : decode cX7_who 193 = .ok (.goto 4, 3) := by decide +kernel
theorem dX7_who_196 : decode cX7_who 196 = .ok (.iconst 0, 1) := by decide +kernel
theorem dX7_who_197 : decode cX7_who 197 = .ok (.ior, 1) := by decide +kernel
theorem dX7_who_198 : decode cX7_who 198 = .ok (.istore 6, 2) := by decide +kernel
theorem dX7_who_200 : decode cX7_who 200 = .ok (.iinc 7 1, 3) := by decide +kernel
theorem dX7_who_203 : decode cX7_who 203 = .ok (.goto (-141), 3) := by decide +kernel
theorem dX7_who_206 : decode cX7_who 206 = .ok (.iload 6, 2) := by decide +kernel
theorem dX7_who_208 : decode cX7_who 208 = .ok (.ireturn, 1) := by decide +kernel
theorem dX7_flaws_0 : decode cX7_flaws 0 = .ok (.aload_n 0, 1) := by decide +kernel
theorem dX7_flaws_1 : decode cX7_flaws 1 = .ok (.iconst 0, 1) := by decide +kernel
theorem dX7_flaws_2 : decode cX7_flaws 2 = .ok (.putfield 53, 3) := by decide +kernel
theorem dX7_flaws_5 : decode cX7_flaws 5 = .ok (.aload_n 0, 1) := by decide +kernel
theorem dX7_flaws_6 : decode cX7_flaws 6 = .ok (.invokevirtual 211, 3) := by decide +kernel
theorem dX7_flaws_9 : decode cX7_flaws 9 = .ok (.ifCond .ne 7, 3) := by decide +kernel
theorem dX7_flaws_12 : decode cX7_flaws 12 = .ok (.ldc2_w 261, 3) := by decide +kernel
theorem dX7_flaws_15 : decode cX7_flaws 15 = .ok (.lreturn, 1) := by decide +kernel
theorem dX7_flaws_16 : decode cX7_flaws 16 = .ok (.iload_n 1, 1) := by decide +kernel
theorem dX7_flaws_17 : decode cX7_flaws 17 = .ok (.i2l, 1) := by decide +kernel
theorem dX7_flaws_18 : decode cX7_flaws 18 = .ok (.lconst 0, 1) := by decide +kernel
theorem dX7_flaws_19 : decode cX7_flaws 19 = .ok (.ldc2_w 263, 3) := by decide +kernel
theorem dX7_flaws_22 : decode cX7_flaws 22 = .ok (.invokestatic 63, 3) := by decide +kernel
theorem dX7_flaws_25 : decode cX7_flaws 25 = .ok (.ifCond .eq 13, 3) := by decide +kernel
theorem dX7_flaws_28 : decode cX7_flaws 28 = .ok (.iload_n 2, 1) := by decide +kernel
theorem dX7_flaws_29 : decode cX7_flaws 29 = .ok (.i2l, 1) := by decide +kernel
theorem dX7_flaws_30 : decode cX7_flaws 30 = .ok (.lconst 0, 1) := by decide +kernel
theorem dX7_flaws_31 : decode cX7_flaws 31 = .ok (.lconst 1, 1) := by decide +kernel
theorem dX7_flaws_32 : decode cX7_flaws 32 = .ok (.invokestatic 63, 3) := by decide +kernel
theorem dX7_flaws_35 : decode cX7_flaws 35 = .ok (.ifCond .ne 7, 3) := by decide +kernel
theorem dX7_flaws_38 : decode cX7_flaws 38 = .ok (.ldc2_w 265, 3) := by decide +kernel
theorem dX7_flaws_41 : decode cX7_flaws 41 = .ok (.lreturn, 1) := by decide +kernel
theorem dX7_flaws_42 : decode cX7_flaws 42 = .ok (.lconst 1, 1) := by decide +kernel
theorem dX7_flaws_43 : decode cX7_flaws 43 = .ok (.lstore_n 3, 1) := by decide +kernel
theorem dX7_flaws_44 : decode cX7_flaws 44 = .ok (.lconst 1, 1) := by decide +kernel
theorem dX7_flaws_45 : decode cX7_flaws 45 = .ok (.lstore 5, 2) := by decide +kernel
theorem dX7_flaws_47 : decode cX7_flaws 47 = .ok (.iconst 0, 1) := by decide +kernel
theorem dX7_flaws_48 : decode cX7_flaws 48 = .ok (.istore 7, 2) := by decide +kernel
theorem dX7_flaws_50 : decode cX7_flaws 50 = .ok (.iload 7, 2) := by decide +kernel
theorem dX7_flaws_52 : decode cX7_flaws 52 = .ok (.aload_n 0, 1) := by decide +kernel
theorem dX7_flaws_53 : decode cX7_flaws 53 = .ok (.getfield 19, 3) := by decide +kernel
theorem dX7_flaws_56 : decode cX7_flaws 56 = .ok (.iconst 0, 1) := by decide +kernel
theorem dX7_flaws_57 : decode cX7_flaws 57 = .ok (.iaload, 1) := by decide +kernel
theorem dX7_flaws_58 : decode cX7_flaws 58 = .ok (.if_icmp .ge 101, 3) := by decide +kernel
theorem dX7_flaws_61 : decode cX7_flaws 61 = .ok (.aload_n 0, 1) := by decide +kernel
theorem dX7_flaws_62 : decode cX7_flaws 62 = .ok (.getfield 19, 3) := by decide +kernel
theorem dX7_flaws_65 : decode cX7_flaws 65 = .ok (.bipush 36, 2) := by decide +kernel
theorem dX7_flaws_67 : decode cX7_flaws 67 = .ok (.iload 7, 2) := by decide +kernel
theorem dX7_flaws_69 : decode cX7_flaws 69 = .ok (.iadd, 1) := by decide +kernel
theorem dX7_flaws_70 : decode cX7_flaws 70 = .ok (.iaload, 1) := by decide +kernel
theorem dX7_flaws_71 : decode cX7_flaws 71 = .ok (.istore 8, 2) := by decide +kernel
theorem dX7_flaws_73 : decode cX7_flaws 73 = .ok (.iload 8, 2) := by decide +kernel
theorem dX7_flaws_75 : decode cX7_flaws 75 = .ok (.ifCond .lt 30, 3) := by decide +kernel
theorem dX7_flaws_78 : decode cX7_flaws 78 = .ok (.aload_n 0, 1) := by decide +kernel
theorem dX7_flaws_79 : decode cX7_flaws 79 = .ok (.getfield 19, 3) := by decide +kernel
theorem dX7_flaws_82 : decode cX7_flaws 82 = .ok (.iload 8, 2) := by decide +kernel
theorem dX7_flaws_84 : decode cX7_flaws 84 = .ok (.invokestatic 163, 3) := by decide +kernel
theorem dX7_flaws_87 : decode cX7_flaws 87 = .ok (.iconst 2, 1) := by decide +kernel
theorem dX7_flaws_88 : decode cX7_flaws 88 = .ok (.idiv, 1) := by decide +kernel
theorem dX7_flaws_89 : decode cX7_flaws 89 = .ok (.aload_n 0, 1) := by decide +kernel
theorem dX7_flaws_90 : decode cX7_flaws 90 = .ok (.getfield 19, 3) := by decide +kernel
theorem dX7_flaws_93 : decode cX7_flaws 93 = .ok (.iload 7, 2) := by decide +kernel
theorem dX7_flaws_95 : decode cX7_flaws 95 = .ok (.invokestatic 166, 3) := by decide +kernel
theorem dX7_flaws_98 : decode cX7_flaws 98 = .ok (.if_icmp .lt 7, 3) := by decide +kernel
theorem dX7_flaws_101 : decode cX7_flaws 101 = .ok (.iconst 1, 1) := by decide +kernel
theorem dX7_flaws_102 : decode cX7_flaws 102 = .ok (.goto 4, 3) := by decide +kernel
theorem dX7_flaws_105 : decode cX7_flaws 105 = .ok (.iconst 0, 1) := by decide +kernel
theorem dX7_flaws_106 : decode cX7_flaws 106 = .ok (.istore 9, 2) := by decide +kernel
theorem dX7_flaws_108 : decode cX7_flaws 108 = .ok (.lload_n 3, 1) := by decide +kernel
theorem dX7_flaws_109 : decode cX7_flaws 109 = .ok (.aload_n 0, 1) := by decide +kernel
theorem dX7_flaws_110 : decode cX7_flaws 110 = .ok (.getfield 19, 3) := by decide +kernel
theorem dX7_flaws_113 : decode cX7_flaws 113 = .ok (.iload 7, 2) := by decide +kernel
theorem dX7_flaws_115 : decode cX7_flaws 115 = .ok (.invokestatic 182, 3) := by decide +kernel
theorem dX7_flaws_118 : decode cX7_flaws 118 = .ok (.ifCond .eq 24, 3) := by decide +kernel
theorem dX7_flaws_121 : decode cX7_flaws 121 = .ok (.ldc2_w 263, 3) := by decide +kernel
theorem dX7_flaws_124 : decode cX7_flaws 124 = .ok (.iload_n 1, 1) := by decide +kernel
theorem dX7_flaws_125 : decode cX7_flaws 125 = .ok (.i2l, 1) := by decide +kernel
theorem dX7_flaws_126 : decode cX7_flaws 126 = .ok (.lsub, 1) := by decide +kernel
theorem dX7_flaws_127 : decode cX7_flaws 127 = .ok (.iload 9, 2) := by decide +kernel
theorem dX7_flaws_129 : decode cX7_flaws 129 = .ok (.ifCond .eq 8, 3) := by decide +kernel
theorem dX7_flaws_132 : decode cX7_flaws 132 = .ok (.iload_n 1, 1) := by decide +kernel
theorem dX7_flaws_133 : decode cX7_flaws 133 = .ok (.i2l, 1) := by decide +kernel
theorem dX7_flaws_134 : decode cX7_flaws 134 = .ok (.goto 4, 3) := by decide +kernel
theorem dX7_flaws_137 : decode cX7_flaws 137 = .ok (.lconst 0, 1) := by decide +kernel
theorem dX7_flaws_138 : decode cX7_flaws 138 = .ok (.ladd, 1) := by decide +kernel
theorem dX7_flaws_139 : decode cX7_flaws 139 = .ok (.goto 4, 3) := by decide +kernel
theorem dX7_flaws_142 : decode cX7_flaws 142 = .ok (.lconst 0, 1) := by decide +kernel
theorem dX7_flaws_143 : decode cX7_flaws 143 = .ok (.lmul, 1) := by decide +kernel
theorem dX7_flaws_144 : decode cX7_flaws 144 = .ok (.lstore_n 3, 1) := by decide +kernel
theorem dX7_flaws_145 : decode cX7_flaws 145 = .ok (.lload 5, 2) := by decide +kernel
theorem dX7_flaws_147 : decode cX7_flaws 147 = .ok (.ldc2_w 263, 3) := by decide +kernel
theorem dX7_flaws_150 : decode cX7_flaws 150 = .ok (.lmul, 1) := by decide +kernel
theorem dX7_flaws_151 : decode cX7_flaws 151 = .ok (.lstore 5, 2) := by decide +kernel
theorem dX7_flaws_153 : decode cX7_flaws 153 = .ok (.iinc 7 1, 3) := by decide +kernel
theorem dX7_flaws_156 : decode cX7_flaws 156 = .ok (.goto (-106), 3) := by decide +kernel
theorem dX7_flaws_159 : decode cX7_flaws 159 = .ok (.lload_n 3, 1) := by decide +kernel
theorem dX7_flaws_160 : decode cX7_flaws 160 = .ok (.lstore 7, 2) := by decide +kernel
theorem dX7_flaws_162 : decode cX7_flaws 162 = .ok (.lload 5, 2) := by decide +kernel
theorem dX7_flaws_164 : decode cX7_flaws 164 = .ok (.lstore 9, 2) := by decide +kernel
theorem dX7_flaws_166 : decode cX7_flaws 166 = .ok (.lload 9, 2) := by decide +kernel
theorem dX7_flaws_168 : decode cX7_flaws 168 = .ok (.lconst 0, 1) := by decide +kernel
theorem dX7_flaws_169 : decode cX7_flaws 169 = .ok (.lcmp, 1) := by decide +kernel
theorem dX7_flaws_170 : decode cX7_flaws 170 = .ok (.ifCond .eq 21, 3) := by decide +kernel
theorem dX7_flaws_173 : decode cX7_flaws 173 = .ok (.lload 7, 2) := by decide +kernel
theorem dX7_flaws_175 : decode cX7_flaws 175 = .ok (.lload 9, 2) := by decide +kernel
theorem dX7_flaws_177 : decode cX7_flaws 177 = .ok (.lrem, 1) := by decide +kernel
theorem dX7_flaws_178 : decode cX7_flaws 178 = .ok (.lstore 11, 2) := by decide +kernel
theorem dX7_flaws_180 : decode cX7_flaws 180 = .ok (.lload 9, 2) := by decide +kernel
theorem dX7_flaws_182 : decode cX7_flaws 182 = .ok (.lstore 7, 2) := by decide +kernel
theorem dX7_flaws_184 : decode cX7_flaws 184 = .ok (.lload 11, 2) := by decide +kernel
theorem dX7_flaws_186 : decode cX7_flaws 186 = .ok (.lstore 9, 2) := by decide +kernel
theorem dX7_flaws_188 : decode cX7_flaws 188 = .ok (.goto (-22), 3) := by decide +kernel
theorem dX7_flaws_191 : decode cX7_flaws 191 = .ok (.iload_n 2, 1) := by decide +kernel
theorem dX7_flaws_192 : decode cX7_flaws 192 = .ok (.ifCond .ne 7, 3) := by decide +kernel
theorem dX7_flaws_195 : decode cX7_flaws 195 = .ok (.lload_n 3, 1) := by decide +kernel
theorem dX7_flaws_196 : decode cX7_flaws 196 = .ok (.goto 5, 3) := by decide +kernel
theorem dX7_flaws_199 : decode cX7_flaws 199 = .ok (.lload 5, 2) := by decide +kernel
theorem dX7_flaws_201 : decode cX7_flaws 201 = .ok (.lload 7, 2) := by decide +kernel
theorem dX7_flaws_203 : decode cX7_flaws 203 = .ok (.ldiv, 1) := by decide +kernel
theorem dX7_flaws_204 : decode cX7_flaws 204 = .ok (.lreturn, 1) := by decide +kernel
theorem dX7_drawn_0 : decode cX7_drawn 0 = .ok (.aload_n 0, 1) := by decide +kernel
theorem dX7_drawn_1 : decode cX7_drawn 1 = .ok (.iconst 0, 1) := by decide +kernel
theorem dX7_drawn_2 : decode cX7_drawn 2 = .ok (.putfield 53, 3) := by decide +kernel
theorem dX7_drawn_5 : decode cX7_drawn 5 = .ok (.aload_n 0, 1) := by decide +kernel
theorem dX7_drawn_6 : decode cX7_drawn 6 = .ok (.invokevirtual 211, 3) := by decide +kernel
theorem dX7_drawn_9 : decode cX7_drawn 9 = .ok (.ifCond .ne 6, 3) := by decide +kernel
theorem dX7_drawn_12 : decode cX7_drawn 12 = .ok (.ldc 207, 2) := by decide +kernel
theorem dX7_drawn_14 : decode cX7_drawn 14 = .ok (.ireturn, 1) := by decide +kernel
theorem dX7_drawn_15 : decode cX7_drawn 15 = .ok (.iload_n 1, 1) := by decide +kernel
theorem dX7_drawn_16 : decode cX7_drawn 16 = .ok (.i2l, 1) := by decide +kernel
theorem dX7_drawn_17 : decode cX7_drawn 17 = .ok (.lconst 0, 1) := by decide +kernel
theorem dX7_drawn_18 : decode cX7_drawn 18 = .ok (.ldc2_w 267, 3) := by decide +kernel
theorem dX7_drawn_21 : decode cX7_drawn 21 = .ok (.invokestatic 63, 3) := by decide +kernel
theorem dX7_drawn_24 : decode cX7_drawn 24 = .ok (.ifCond .eq 25, 3) := by decide +kernel
theorem dX7_drawn_27 : decode cX7_drawn 27 = .ok (.iload_n 2, 1) := by decide +kernel
theorem dX7_drawn_28 : decode cX7_drawn 28 = .ok (.i2l, 1) := by decide +kernel
theorem dX7_drawn_29 : decode cX7_drawn 29 = .ok (.lconst 1, 1) := by decide +kernel
theorem dX7_drawn_30 : decode cX7_drawn 30 = .ok (.ldc2_w 269, 3) := by decide +kernel
theorem dX7_drawn_33 : decode cX7_drawn 33 = .ok (.invokestatic 63, 3) := by decide +kernel
theorem dX7_drawn_36 : decode cX7_drawn 36 = .ok (.ifCond .eq 13, 3) := by decide +kernel
theorem dX7_drawn_39 : decode cX7_drawn 39 = .ok (.iload_n 3, 1) := by decide +kernel
theorem dX7_drawn_40 : decode cX7_drawn 40 = .ok (.i2l, 1) := by decide +kernel
theorem dX7_drawn_41 : decode cX7_drawn 41 = .ok (.lconst 0, 1) := by decide +kernel
theorem dX7_drawn_42 : decode cX7_drawn 42 = .ok (.lconst 1, 1) := by decide +kernel
theorem dX7_drawn_43 : decode cX7_drawn 43 = .ok (.invokestatic 63, 3) := by decide +kernel
theorem dX7_drawn_46 : decode cX7_drawn 46 = .ok (.ifCond .ne 6, 3) := by decide +kernel
theorem dX7_drawn_49 : decode cX7_drawn 49 = .ok (.ldc 73, 2) := by decide +kernel
theorem dX7_drawn_51 : decode cX7_drawn 51 = .ok (.ireturn, 1) := by decide +kernel
theorem dX7_drawn_52 : decode cX7_drawn 52 = .ok (.aload_n 0, 1) := by decide +kernel
theorem dX7_drawn_53 : decode cX7_drawn 53 = .ok (.invokevirtual 237, 3) := by decide +kernel
theorem dX7_drawn_56 : decode cX7_drawn 56 = .ok (.iload_n 2, 1) := by decide +kernel
theorem dX7_drawn_57 : decode cX7_drawn 57 = .ok (.i2l, 1) := by decide +kernel
theorem dX7_drawn_58 : decode cX7_drawn 58 = .ok (.lstore 4, 2) := by decide +kernel
theorem dX7_drawn_60 : decode cX7_drawn 60 = .ok (.iconst 0, 1) := by decide +kernel
theorem dX7_drawn_61 : decode cX7_drawn 61 = .ok (.istore 6, 2) := by decide +kernel
theorem dX7_drawn_63 : decode cX7_drawn 63 = .ok (.iconst 0, 1) := by decide +kernel
theorem dX7_drawn_64 : decode cX7_drawn 64 = .ok (.istore 7, 2) := by decide +kernel
theorem dX7_drawn_66 : decode cX7_drawn 66 = .ok (.iload 7, 2) := by decide +kernel
theorem dX7_drawn_68 : decode cX7_drawn 68 = .ok (.iload_n 1, 1) := by decide +kernel
theorem dX7_drawn_69 : decode cX7_drawn 69 = .ok (.if_icmp .ge 95, 3) := by decide +kernel
theorem dX7_drawn_72 : decode cX7_drawn 72 = .ok (.lload 4, 2) := by decide +kernel
theorem dX7_drawn_74 : decode cX7_drawn 74 = .ok (.ldc2_w 271, 3) := by decide +kernel
theorem dX7_drawn_77 : decode cX7_drawn 77 = .ok (.lmul, 1) := by decide +kernel
theorem dX7_drawn_78 : decode cX7_drawn 78 = .ok (.ldc2_w 273, 3) := by decide +kernel
theorem dX7_drawn_81 : decode cX7_drawn 81 = .ok (.lrem, 1) := by decide +kernel
theorem dX7_drawn_82 : decode cX7_drawn 82 = .ok (.lstore 4, 2) := by decide +kernel
theorem dX7_drawn_84 : decode cX7_drawn 84 = .ok (.aload_n 0, 1) := by decide +kernel
theorem dX7_drawn_85 : decode cX7_drawn 85 = .ok (.getfield 25, 3) := by decide +kernel
theorem dX7_drawn_88 : decode cX7_drawn 88 = .ok (.bipush 36, 2) := by decide +kernel
theorem dX7_drawn_90 : decode cX7_drawn 90 = .ok (.lload 4, 2) := by decide +kernel
theorem dX7_drawn_92 : decode cX7_drawn 92 = .ok (.aload_n 0, 1) := by decide +kernel
theorem dX7_drawn_93 : decode cX7_drawn 93 = .ok (.getfield 25, 3) := by decide +kernel
theorem dX7_drawn_96 : decode cX7_drawn 96 = .ok (.iconst 0, 1) := by decide +kernel
theorem dX7_drawn_97 : decode cX7_drawn 97 = .ok (.iaload, 1) := by decide +kernel
theorem dX7_drawn_98 : decode cX7_drawn 98 = .ok (.i2l, 1) := by decide +kernel
theorem dX7_drawn_99 : decode cX7_drawn 99 = .ok (.lrem, 1) := by decide +kernel
theorem dX7_drawn_100 : decode cX7_drawn 100 = .ok (.l2i, 1) := by decide +kernel
theorem dX7_drawn_101 : decode cX7_drawn 101 = .ok (.iadd, 1) := by decide +kernel
theorem dX7_drawn_102 : decode cX7_drawn 102 = .ok (.lload 4, 2) := by decide +kernel
theorem dX7_drawn_104 : decode cX7_drawn 104 = .ok (.ldc2_w 275, 3) := by decide +kernel
theorem dX7_drawn_107 : decode cX7_drawn 107 = .ok (.ldiv, 1) := by decide +kernel
theorem dX7_drawn_108 : decode cX7_drawn 108 = .ok (.aload_n 0, 1) := by decide +kernel
theorem dX7_drawn_109 : decode cX7_drawn 109 = .ok (.getfield 25, 3) := by decide +kernel
theorem dX7_drawn_112 : decode cX7_drawn 112 = .ok (.iconst 5, 1) := by decide +kernel
theorem dX7_drawn_113 : decode cX7_drawn 113 = .ok (.iaload, 1) := by decide +kernel
theorem dX7_drawn_114 : decode cX7_drawn 114 = .ok (.i2l, 1) := by decide +kernel
theorem dX7_drawn_115 : decode cX7_drawn 115 = .ok (.lrem, 1) := by decide +kernel
theorem dX7_drawn_116 : decode cX7_drawn 116 = .ok (.l2i, 1) := by decide +kernel
theorem dX7_drawn_117 : decode cX7_drawn 117 = .ok (.iastore, 1) := by decide +kernel
theorem dX7_drawn_118 : decode cX7_drawn 118 = .ok (.lload 4, 2) := by decide +kernel
theorem dX7_drawn_120 : decode cX7_drawn 120 = .ok (.ldc2_w 277, 3) := by decide +kernel
theorem dX7_drawn_123 : decode cX7_drawn 123 = .ok (.lrem, 1) := by decide +kernel
theorem dX7_drawn_124 : decode cX7_drawn 124 = .ok (.lconst 0, 1) := by decide +kernel
theorem dX7_drawn_125 : decode cX7_drawn 125 = .ok (.lcmp, 1) := by decide +kernel
theorem dX7_drawn_126 : decode cX7_drawn 126 = .ok (.ifCond .ne 20, 3) := by decide +kernel
theorem dX7_drawn_129 : decode cX7_drawn 129 = .ok (.aload_n 0, 1) := by decide +kernel
theorem dX7_drawn_130 : decode cX7_drawn 130 = .ok (.getfield 25, 3) := by decide +kernel
theorem dX7_drawn_133 : decode cX7_drawn 133 = .ok (.iconst 2, 1) := by decide +kernel
theorem dX7_drawn_134 : decode cX7_drawn 134 = .ok (.lload 4, 2) := by decide +kernel
theorem dX7_drawn_136 : decode cX7_drawn 136 = .ok (.ldc2_w 279, 3) := by decide +kernel
theorem dX7_drawn_139 : decode cX7_drawn 139 = .ok (.ldiv, 1) := by decide +kernel
theorem dX7_drawn_140 : decode cX7_drawn 140 = .ok (.ldc2_w 281, 3) := by decide +kernel
theorem dX7_drawn_143 : decode cX7_drawn 143 = .ok (.lrem, 1) := by decide +kernel
theorem dX7_drawn_144 : decode cX7_drawn 144 = .ok (.l2i, 1) := by decide +kernel
theorem dX7_drawn_145 : decode cX7_drawn 145 = .ok (.iastore, 1) := by decide +kernel
theorem dX7_drawn_146 : decode cX7_drawn 146 = .ok (.iload 6, 2) := by decide +kernel
theorem dX7_drawn_148 : decode cX7_drawn 148 = .ok (.aload_n 0, 1) := by decide +kernel
theorem dX7_drawn_149 : decode cX7_drawn 149 = .ok (.getfield 25, 3) := by decide +kernel
theorem dX7_drawn_152 : decode cX7_drawn 152 = .ok (.invokestatic 240, 3) := by decide +kernel
theorem dX7_drawn_155 : decode cX7_drawn 155 = .ok (.iadd, 1) := by decide +kernel
theorem dX7_drawn_156 : decode cX7_drawn 156 = .ok (.istore 6, 2) := by decide +kernel
theorem dX7_drawn_158 : decode cX7_drawn 158 = .ok (.iinc 7 1, 3) := by decide +kernel
theorem dX7_drawn_161 : decode cX7_drawn 161 = .ok (.goto (-95), 3) := by decide +kernel
theorem dX7_drawn_164 : decode cX7_drawn 164 = .ok (.iload_n 3, 1) := by decide +kernel
theorem dX7_drawn_165 : decode cX7_drawn 165 = .ok (.ifCond .ne 8, 3) := by decide +kernel
theorem dX7_drawn_168 : decode cX7_drawn 168 = .ok (.iload 6, 2) := by decide +kernel
theorem dX7_drawn_170 : decode cX7_drawn 170 = .ok (.goto 10, 3) := by decide +kernel
theorem dX7_drawn_173 : decode cX7_drawn 173 = .ok (.aload_n 0, 1) := by decide +kernel
theorem dX7_drawn_174 : decode cX7_drawn 174 = .ok (.getfield 25, 3) := by decide +kernel
theorem dX7_drawn_177 : decode cX7_drawn 177 = .ok (.invokestatic 217, 3) := by decide +kernel
theorem dX7_drawn_180 : decode cX7_drawn 180 = .ok (.ireturn, 1) := by decide +kernel
theorem dX7_image_0 : decode cX7_image 0 = .ok (.aload_n 0, 1) := by decide +kernel
theorem dX7_image_1 : decode cX7_image 1 = .ok (.iconst 0, 1) := by decide +kernel
theorem dX7_image_2 : decode cX7_image 2 = .ok (.putfield 53, 3) := by decide +kernel
theorem dX7_image_5 : decode cX7_image 5 = .ok (.iload_n 1, 1) := by decide +kernel
theorem dX7_image_6 : decode cX7_image 6 = .ok (.i2l, 1) := by decide +kernel
theorem dX7_image_7 : decode cX7_image 7 = .ok (.lconst 0, 1) := by decide +kernel
theorem dX7_image_8 : decode cX7_image 8 = .ok (.lconst 1, 1) := by decide +kernel
theorem dX7_image_9 : decode cX7_image 9 = .ok (.invokestatic 63, 3) := by decide +kernel
theorem dX7_image_12 : decode cX7_image 12 = .ok (.ifCond .ne 6, 3) := by decide +kernel
theorem dX7_image_15 : decode cX7_image 15 = .ok (.ldc 73, 2) := by decide +kernel
theorem dX7_image_17 : decode cX7_image 17 = .ok (.ireturn, 1) := by decide +kernel
theorem dX7_image_18 : decode cX7_image 18 = .ok (.aload_n 0, 1) := by decide +kernel
theorem dX7_image_19 : decode cX7_image 19 = .ok (.invokevirtual 211, 3) := by decide +kernel
theorem dX7_image_22 : decode cX7_image 22 = .ok (.ifCond .ne 6, 3) := by decide +kernel
theorem dX7_image_25 : decode cX7_image 25 = .ok (.ldc 207, 2) := by decide +kernel
theorem dX7_image_27 : decode cX7_image 27 = .ok (.ireturn, 1) := by decide +kernel
theorem dX7_image_28 : decode cX7_image 28 = .ok (.iconst 0, 1) := by decide +kernel
theorem dX7_image_29 : decode cX7_image 29 = .ok (.istore_n 2, 1) := by decide +kernel
theorem dX7_image_30 : decode cX7_image 30 = .ok (.iload_n 2, 1) := by decide +kernel
theorem dX7_image_31 : decode cX7_image 31 = .ok (.bipush 44, 2) := by decide +kernel
theorem dX7_image_33 : decode cX7_image 33 = .ok (.if_icmp .ge 26, 3) := by decide +kernel
theorem dX7_image_36 : decode cX7_image 36 = .ok (.aload_n 0, 1) := by decide +kernel
theorem dX7_image_37 : decode cX7_image 37 = .ok (.getfield 47, 3) := by decide +kernel
theorem dX7_image_40 : decode cX7_image 40 = .ok (.bipush 44, 2) := by decide +kernel
theorem dX7_image_42 : decode cX7_image 42 = .ok (.iload_n 1, 1) := by decide +kernel
theorem dX7_image_43 : decode cX7_image 43 = .ok (.imul, 1) := by decide +kernel
theorem dX7_image_44 : decode cX7_image 44 = .ok (.iload_n 2, 1) := by decide +kernel
theorem dX7_image_45 : decode cX7_image 45 = .ok (.iadd, 1) := by decide +kernel
theorem dX7_image_46 : decode cX7_image 46 = .ok (.aload_n 0, 1) := by decide +kernel
theorem dX7_image_47 : decode cX7_image 47 = .ok (.getfield 19, 3) := by decide +kernel
theorem dX7_image_50 : decode cX7_image 50 = .ok (.iload_n 2, 1) := by decide +kernel
theorem dX7_image_51 : decode cX7_image 51 = .ok (.iaload, 1) := by decide +kernel
theorem dX7_image_52 : decode cX7_image 52 = .ok (.iastore, 1) := by decide +kernel
theorem dX7_image_53 : decode cX7_image 53 = .ok (.iinc 2 1, 3) := by decide +kernel
theorem dX7_image_56 : decode cX7_image 56 = .ok (.goto (-26), 3) := by decide +kernel
theorem dX7_image_59 : decode cX7_image 59 = .ok (.aload_n 0, 1) := by decide +kernel
theorem dX7_image_60 : decode cX7_image 60 = .ok (.getfield 43, 3) := by decide +kernel
theorem dX7_image_63 : decode cX7_image 63 = .ok (.iload_n 1, 1) := by decide +kernel
theorem dX7_image_64 : decode cX7_image 64 = .ok (.iconst 1, 1) := by decide +kernel
theorem dX7_image_65 : decode cX7_image 65 = .ok (.bastore, 1) := by decide +kernel
theorem dX7_image_66 : decode cX7_image 66 = .ok (.iconst 1, 1) := by decide +kernel
theorem dX7_image_67 : decode cX7_image 67 = .ok (.ireturn, 1) := by decide +kernel
theorem dX7_restore_0 : decode cX7_restore 0 = .ok (.aload_n 0, 1) := by decide +kernel
theorem dX7_restore_1 : decode cX7_restore 1 = .ok (.iconst 0, 1) := by decide +kernel
theorem dX7_restore_2 : decode cX7_restore 2 = .ok (.putfield 53, 3) := by decide +kernel
theorem dX7_restore_5 : decode cX7_restore 5 = .ok (.iload_n 1, 1) := by decide +kernel
theorem dX7_restore_6 : decode cX7_restore 6 = .ok (.i2l, 1) := by decide +kernel
theorem dX7_restore_7 : decode cX7_restore 7 = .ok (.lconst 0, 1) := by decide +kernel
theorem dX7_restore_8 : decode cX7_restore 8 = .ok (.lconst 1, 1) := by decide +kernel
theorem dX7_restore_9 : decode cX7_restore 9 = .ok (.invokestatic 63, 3) := by decide +kernel
theorem dX7_restore_12 : decode cX7_restore 12 = .ok (.ifCond .ne 6, 3) := by decide +kernel
theorem dX7_restore_15 : decode cX7_restore 15 = .ok (.ldc 73, 2) := by decide +kernel
theorem dX7_restore_17 : decode cX7_restore 17 = .ok (.ireturn, 1) := by decide +kernel
theorem dX7_restore_18 : decode cX7_restore 18 = .ok (.aload_n 0, 1) := by decide +kernel
theorem dX7_restore_19 : decode cX7_restore 19 = .ok (.getfield 43, 3) := by decide +kernel
theorem dX7_restore_22 : decode cX7_restore 22 = .ok (.iload_n 1, 1) := by decide +kernel
theorem dX7_restore_23 : decode cX7_restore 23 = .ok (.baload, 1) := by decide +kernel
theorem dX7_restore_24 : decode cX7_restore 24 = .ok (.ifCond .ne 6, 3) := by decide +kernel
theorem dX7_restore_27 : decode cX7_restore 27 = .ok (.ldc 207, 2) := by decide +kernel
theorem dX7_restore_29 : decode cX7_restore 29 = .ok (.ireturn, 1) := by decide +kernel
theorem dX7_restore_30 : decode cX7_restore 30 = .ok (.iconst 0, 1) := by decide +kernel
theorem dX7_restore_31 : decode cX7_restore 31 = .ok (.istore_n 2, 1) := by decide +kernel
theorem dX7_restore_32 : decode cX7_restore 32 = .ok (.iload_n 2, 1) := by decide +kernel
theorem dX7_restore_33 : decode cX7_restore 33 = .ok (.bipush 44, 2) := by decide +kernel
theorem dX7_restore_35 : decode cX7_restore 35 = .ok (.if_icmp .ge 26, 3) := by decide +kernel
theorem dX7_restore_38 : decode cX7_restore 38 = .ok (.aload_n 0, 1) := by decide +kernel
theorem dX7_restore_39 : decode cX7_restore 39 = .ok (.getfield 19, 3) := by decide +kernel
theorem dX7_restore_42 : decode cX7_restore 42 = .ok (.iload_n 2, 1) := by decide +kernel
theorem dX7_restore_43 : decode cX7_restore 43 = .ok (.aload_n 0, 1) := by decide +kernel
theorem dX7_restore_44 : decode cX7_restore 44 = .ok (.getfield 47, 3) := by decide +kernel
theorem dX7_restore_47 : decode cX7_restore 47 = .ok (.bipush 44, 2) := by decide +kernel
theorem dX7_restore_49 : decode cX7_restore 49 = .ok (.iload_n 1, 1) := by decide +kernel
theorem dX7_restore_50 : decode cX7_restore 50 = .ok (.imul, 1) := by decide +kernel
theorem dX7_restore_51 : decode cX7_restore 51 = .ok (.iload_n 2, 1) := by decide +kernel
theorem dX7_restore_52 : decode cX7_restore 52 = .ok (.iadd, 1) := by decide +kernel
theorem dX7_restore_53 : decode cX7_restore 53 = .ok (.iaload, 1) := by decide +kernel
theorem dX7_restore_54 : decode cX7_restore 54 = .ok (.iastore, 1) := by decide +kernel
theorem dX7_restore_55 : decode cX7_restore 55 = .ok (.iinc 2 1, 3) := by decide +kernel
theorem dX7_restore_58 : decode cX7_restore 58 = .ok (.goto (-26), 3) := by decide +kernel
theorem dX7_restore_61 : decode cX7_restore 61 = .ok (.aload_n 0, 1) := by decide +kernel
theorem dX7_restore_62 : decode cX7_restore 62 = .ok (.iconst 0, 1) := by decide +kernel
theorem dX7_restore_63 : decode cX7_restore 63 = .ok (.putfield 152, 3) := by decide +kernel
theorem dX7_restore_66 : decode cX7_restore 66 = .ok (.iconst 1, 1) := by decide +kernel
theorem dX7_restore_67 : decode cX7_restore 67 = .ok (.ireturn, 1) := by decide +kernel
theorem dX7_isOf_0 : decode cX7_isOf 0 = .ok (.iload_n 1, 1) := by decide +kernel
theorem dX7_isOf_1 : decode cX7_isOf 1 = .ok (.ifCond .eq 28, 3) := by decide +kernel
theorem dX7_isOf_4 : decode cX7_isOf 4 = .ok (.iload_n 0, 1) := by decide +kernel
theorem dX7_isOf_5 : decode cX7_isOf 5 = .ok (.iload_n 1, 1) := by decide +kernel
theorem dX7_isOf_6 : decode cX7_isOf 6 = .ok (.if_icmp .eq 23, 3) := by decide +kernel
theorem dX7_isOf_9 : decode cX7_isOf 9 = .ok (.iload_n 1, 1) := by decide +kernel
theorem dX7_isOf_10 : decode cX7_isOf 10 = .ok (.iconst 1, 1) := by decide +kernel
theorem dX7_isOf_11 : decode cX7_isOf 11 = .ok (.if_icmp .ne 8, 3) := by decide +kernel
theorem dX7_isOf_14 : decode cX7_isOf 14 = .ok (.iload_n 0, 1) := by decide +kernel
theorem dX7_isOf_15 : decode cX7_isOf 15 = .ok (.iconst 4, 1) := by decide +kernel
theorem dX7_isOf_16 : decode cX7_isOf 16 = .ok (.if_icmp .lt 13, 3) := by decide +kernel
theorem dX7_isOf_19 : decode cX7_isOf 19 = .ok (.iload_n 1, 1) := by decide +kernel
theorem dX7_isOf_20 : decode cX7_isOf 20 = .ok (.iconst 4, 1) := by decide +kernel
theorem dX7_isOf_21 : decode cX7_isOf 21 = .ok (.if_icmp .ne 12, 3) := by decide +kernel
theorem dX7_isOf_24 : decode cX7_isOf 24 = .ok (.iload_n 0, 1) := by decide +kernel
theorem dX7_isOf_25 : decode cX7_isOf 25 = .ok (.iconst 5, 1) := by decide +kernel
theorem dX7_isOf_26 : decode cX7_isOf 26 = .ok (.if_icmp .ne 7, 3) := by decide +kernel
theorem dX7_isOf_29 : decode cX7_isOf 29 = .ok (.iconst 1, 1) := by decide +kernel
theorem dX7_isOf_30 : decode cX7_isOf 30 = .ok (.goto 4, 3) := by decide +kernel
theorem dX7_isOf_33 : decode cX7_isOf 33 = .ok (.iconst 0, 1) := by decide +kernel
theorem dX7_isOf_34 : decode cX7_isOf 34 = .ok (.ireturn, 1) := by decide +kernel
theorem dX7_kind_0 : decode cX7_kind 0 = .ok (.aload_n 0, 1) := by decide +kernel
theorem dX7_kind_1 : decode cX7_kind 1 = .ok (.iconst 0, 1) := by decide +kernel
theorem dX7_kind_2 : decode cX7_kind 2 = .ok (.putfield 53, 3) := by decide +kernel
theorem dX7_kind_5 : decode cX7_kind 5 = .ok (.aload_n 0, 1) := by decide +kernel
theorem dX7_kind_6 : decode cX7_kind 6 = .ok (.iload_n 1, 1) := by decide +kernel
theorem dX7_kind_7 : decode cX7_kind 7 = .ok (.invokevirtual 204, 3) := by decide +kernel
theorem dX7_kind_10 : decode cX7_kind 10 = .ok (.ifCond .eq 15, 3) := by decide +kernel
theorem dX7_kind_13 : decode cX7_kind 13 = .ok (.aload_n 0, 1) := by decide +kernel
theorem dX7_kind_14 : decode cX7_kind 14 = .ok (.getfield 19, 3) := by decide +kernel
theorem dX7_kind_17 : decode cX7_kind 17 = .ok (.iload_n 1, 1) := by decide +kernel
theorem dX7_kind_18 : decode cX7_kind 18 = .ok (.iconst 0, 1) := by decide +kernel
theorem dX7_kind_19 : decode cX7_kind 19 = .ok (.invokestatic 155, 3) := by decide +kernel
theorem dX7_kind_22 : decode cX7_kind 22 = .ok (.goto 5, 3) := by decide +kernel
theorem dX7_kind_25 : decode cX7_kind 25 = .ok (.ldc 73, 2) := by decide +kernel
theorem dX7_kind_27 : decode cX7_kind 27 = .ok (.ireturn, 1) := by decide +kernel
theorem dX7_as_0 : decode cX7_as 0 = .ok (.aload_n 0, 1) := by decide +kernel
theorem dX7_as_1 : decode cX7_as 1 = .ok (.iconst 0, 1) := by decide +kernel
theorem dX7_as_2 : decode cX7_as 2 = .ok (.putfield 53, 3) := by decide +kernel
theorem dX7_as_5 : decode cX7_as 5 = .ok (.aload_n 0, 1) := by decide +kernel
theorem dX7_as_6 : decode cX7_as 6 = .ok (.iload_n 1, 1) := by decide +kernel
theorem dX7_as_7 : decode cX7_as 7 = .ok (.invokevirtual 204, 3) := by decide +kernel
theorem dX7_as_10 : decode cX7_as 10 = .ok (.ifCond .eq 15, 3) := by decide +kernel
theorem dX7_as_13 : decode cX7_as 13 = .ok (.iload_n 2, 1) := by decide +kernel
theorem dX7_as_14 : decode cX7_as 14 = .ok (.i2l, 1) := by decide +kernel
theorem dX7_as_15 : decode cX7_as 15 = .ok (.lconst 0, 1) := by decide +kernel
theorem dX7_as_16 : decode cX7_as 16 = .ok (.ldc2_w 277, 3) := by decide +kernel
theorem dX7_as_19 : decode cX7_as 19 = .ok (.invokestatic 63, 3) := by decide +kernel
theorem dX7_as_22 : decode cX7_as 22 = .ok (.ifCond .ne 6, 3) := by decide +kernel
theorem dX7_as_25 : decode cX7_as 25 = .ok (.ldc 73, 2) := by decide +kernel
theorem dX7_as_27 : decode cX7_as 27 = .ok (.ireturn, 1) := by decide +kernel
theorem dX7_as_28 : decode cX7_as 28 = .ok (.aload_n 0, 1) := by decide +kernel
theorem dX7_as_29 : decode cX7_as 29 = .ok (.iconst 0, 1) := by decide +kernel
theorem dX7_as_30 : decode cX7_as 30 = .ok (.putfield 57, 3) := by decide +kernel
theorem dX7_as_33 : decode cX7_as 33 = .ok (.aload_n 0, 1) := by decide +kernel
theorem dX7_as_34 : decode cX7_as 34 = .ok (.getfield 19, 3) := by decide +kernel
theorem dX7_as_37 : decode cX7_as 37 = .ok (.iload_n 1, 1) := by decide +kernel
theorem dX7_as_38 : decode cX7_as 38 = .ok (.iconst 0, 1) := by decide +kernel
theorem dX7_as_39 : decode cX7_as 39 = .ok (.invokestatic 155, 3) := by decide +kernel
theorem dX7_as_42 : decode cX7_as 42 = .ok (.iload_n 2, 1) := by decide +kernel
theorem dX7_as_43 : decode cX7_as 43 = .ok (.invokestatic 283, 3) := by decide +kernel
theorem dX7_as_46 : decode cX7_as 46 = .ok (.ifCond .eq 7, 3) := by decide +kernel
theorem dX7_as_49 : decode cX7_as 49 = .ok (.iload_n 1, 1) := by decide +kernel
theorem dX7_as_50 : decode cX7_as 50 = .ok (.goto 8, 3) := by decide +kernel
theorem dX7_as_53 : decode cX7_as 53 = .ok (.aload_n 0, 1) := by decide +kernel
theorem dX7_as_54 : decode cX7_as 54 = .ok (.iconst 3, 1) := by decide +kernel
theorem dX7_as_55 : decode cX7_as 55 = .ok (.invokevirtual 74, 3) := by decide +kernel
theorem dX7_as_58 : decode cX7_as 58 = .ok (.ireturn, 1) := by decide +kernel
theorem dX7_began_0 : decode cX7_began 0 = .ok (.aload_n 0, 1) := by decide +kernel
theorem dX7_began_1 : decode cX7_began 1 = .ok (.getfield 286, 3) := by decide +kernel
theorem dX7_began_4 : decode cX7_began 4 = .ok (.bipush 16, 2) := by decide +kernel
theorem dX7_began_6 : decode cX7_began 6 = .ok (.if_icmp .ge 23, 3) := by decide +kernel
theorem dX7_began_9 : decode cX7_began 9 = .ok (.aload_n 0, 1) := by decide +kernel
theorem dX7_began_10 : decode cX7_began 10 = .ok (.getfield 50, 3) := by decide +kernel
theorem dX7_began_13 : decode cX7_began 13 = .ok (.aload_n 0, 1) := by decide +kernel
theorem dX7_began_14 : decode cX7_began 14 = .ok (.getfield 286, 3) := by decide +kernel
theorem dX7_began_17 : decode cX7_began 17 = .ok (.iload_n 1, 1) := by decide +kernel
theorem dX7_began_18 : decode cX7_began 18 = .ok (.iastore, 1) := by decide +kernel
theorem dX7_began_19 : decode cX7_began 19 = .ok (.aload_n 0, 1) := by decide +kernel
theorem dX7_began_20 : decode cX7_began 20 = .ok (.dup, 1) := by decide +kernel
theorem dX7_began_21 : decode cX7_began 21 = .ok (.getfield 286, 3) := by decide +kernel
theorem dX7_began_24 : decode cX7_began 24 = .ok (.iconst 1, 1) := by decide +kernel
theorem dX7_began_25 : decode cX7_began 25 = .ok (.iadd, 1) := by decide +kernel
theorem dX7_began_26 : decode cX7_began 26 = .ok (.putfield 286, 3) := by decide +kernel
theorem dX7_began_29 : decode cX7_began 29 = .ok (.return_, 1) := by decide +kernel
theorem dX7_plainSize_0 : decode cX7_plainSize 0 = .ok (.aload_n 0, 1) := by decide +kernel
theorem dX7_plainSize_1 : decode cX7_plainSize 1 = .ok (.bipush 10, 2) := by decide +kernel
theorem dX7_plainSize_3 : decode cX7_plainSize 3 = .ok (.invokevirtual 289, 3) := by decide +kernel
theorem dX7_plainSize_6 : decode cX7_plainSize 6 = .ok (.aload_n 0, 1) := by decide +kernel
theorem dX7_plainSize_7 : decode cX7_plainSize 7 = .ok (.getfield 19, 3) := by decide +kernel
theorem dX7_plainSize_10 : decode cX7_plainSize 10 = .ok (.iload_n 1, 1) := by decide +kernel
theorem dX7_plainSize_11 : decode cX7_plainSize 11 = .ok (.iconst 5, 1) := by decide +kernel
theorem dX7_plainSize_12 : decode cX7_plainSize 12 = .ok (.invokestatic 155, 3) := by decide +kernel
theorem dX7_plainSize_15 : decode cX7_plainSize 15 = .ok (.ireturn, 1) := by decide +kernel
theorem dX7_thickSize_0 : decode cX7_thickSize 0 = .ok (.aload_n 0, 1) := by decide +kernel
theorem dX7_thickSize_1 : decode cX7_thickSize 1 = .ok (.getfield 19, 3) := by decide +kernel
theorem dX7_thickSize_4 : decode cX7_thickSize 4 = .ok (.iload_n 1, 1) := by decide +kernel
theorem dX7_thickSize_5 : decode cX7_thickSize 5 = .ok (.iconst 0, 1) := by decide +kernel
theorem dX7_thickSize_6 : decode cX7_thickSize 6 = .ok (.invokestatic 155, 3) := by decide +kernel
theorem dX7_thickSize_9 : decode cX7_thickSize 9 = .ok (.iconst 5, 1) := by decide +kernel
theorem dX7_thickSize_10 : decode cX7_thickSize 10 = .ok (.if_icmp .ne 7, 3) := by decide +kernel
theorem dX7_thickSize_13 : decode cX7_thickSize 13 = .ok (.iconst 1, 1) := by decide +kernel
theorem dX7_thickSize_14 : decode cX7_thickSize 14 = .ok (.goto 4, 3) := by decide +kernel
theorem dX7_thickSize_17 : decode cX7_thickSize 17 = .ok (.iconst 0, 1) := by decide +kernel
theorem dX7_thickSize_18 : decode cX7_thickSize 18 = .ok (.istore_n 2, 1) := by decide +kernel
theorem dX7_thickSize_19 : decode cX7_thickSize 19 = .ok (.iload_n 2, 1) := by decide +kernel
theorem dX7_thickSize_20 : decode cX7_thickSize 20 = .ok (.ifCond .eq 9, 3) := by decide +kernel
theorem dX7_thickSize_23 : decode cX7_thickSize 23 = .ok (.aload_n 0, 1) := by decide +kernel
theorem dX7_thickSize_24 : decode cX7_thickSize 24 = .ok (.bipush 14, 2) := by decide +kernel
theorem dX7_thickSize_26 : decode cX7_thickSize 26 = .ok (.invokevirtual 289, 3) := by decide +kernel
theorem dX7_thickSize_29 : decode cX7_thickSize 29 = .ok (.aload_n 0, 1) := by decide +kernel
theorem dX7_thickSize_30 : decode cX7_thickSize 30 = .ok (.bipush 13, 2) := by decide +kernel
theorem dX7_thickSize_32 : decode cX7_thickSize 32 = .ok (.invokevirtual 289, 3) := by decide +kernel
theorem dX7_thickSize_35 : decode cX7_thickSize 35 = .ok (.aload_n 0, 1) := by decide +kernel
theorem dX7_thickSize_36 : decode cX7_thickSize 36 = .ok (.iload_n 1, 1) := by decide +kernel
theorem dX7_thickSize_37 : decode cX7_thickSize 37 = .ok (.invokevirtual 292, 3) := by decide +kernel
theorem dX7_thickSize_40 : decode cX7_thickSize 40 = .ok (.bipush 100, 2) := by decide +kernel
theorem dX7_thickSize_42 : decode cX7_thickSize 42 = .ok (.isub, 1) := by decide +kernel
theorem dX7_thickSize_43 : decode cX7_thickSize 43 = .ok (.istore_n 3, 1) := by decide +kernel
theorem dX7_thickSize_44 : decode cX7_thickSize 44 = .ok (.iload_n 2, 1) := by decide +kernel
theorem dX7_thickSize_45 : decode cX7_thickSize 45 = .ok (.ifCond .eq 9, 3) := by decide +kernel
theorem dX7_thickSize_48 : decode cX7_thickSize 48 = .ok (.iconst 2, 1) := by decide +kernel
theorem dX7_thickSize_49 : decode cX7_thickSize 49 = .ok (.iload_n 3, 1) := by decide +kernel
theorem dX7_thickSize_50 : decode cX7_thickSize 50 = .ok (.imul, 1) := by decide +kernel
theorem dX7_thickSize_51 : decode cX7_thickSize 51 = .ok (.goto 4, 3) := by decide +kernel
theorem dX7_thickSize_54 : decode cX7_thickSize 54 = .ok (.iload_n 3, 1) := by decide +kernel
theorem dX7_thickSize_55 : decode cX7_thickSize 55 = .ok (.ireturn, 1) := by decide +kernel
theorem dX7_markOf_0 : decode cX7_markOf 0 = .ok (.aload_n 0, 1) := by decide +kernel
theorem dX7_markOf_1 : decode cX7_markOf 1 = .ok (.getfield 19, 3) := by decide +kernel
theorem dX7_markOf_4 : decode cX7_markOf 4 = .ok (.iload_n 1, 1) := by decide +kernel
theorem dX7_markOf_5 : decode cX7_markOf 5 = .ok (.iconst 0, 1) := by decide +kernel
theorem dX7_markOf_6 : decode cX7_markOf 6 = .ok (.invokestatic 155, 3) := by decide +kernel
theorem dX7_markOf_9 : decode cX7_markOf 9 = .ok (.istore_n 2, 1) := by decide +kernel
theorem dX7_markOf_10 : decode cX7_markOf 10 = .ok (.iload_n 2, 1) := by decide +kernel
theorem dX7_markOf_11 : decode cX7_markOf 11 = .ok (.iconst 4, 1) := by decide +kernel
theorem dX7_markOf_12 : decode cX7_markOf 12 = .ok (.if_icmp .lt 23, 3) := by decide +kernel
theorem dX7_markOf_15 : decode cX7_markOf 15 = .ok (.aload_n 0, 1) := by decide +kernel
theorem dX7_markOf_16 : decode cX7_markOf 16 = .ok (.bipush 23, 2) := by decide +kernel
theorem dX7_markOf_18 : decode cX7_markOf 18 = .ok (.invokevirtual 289, 3) := by decide +kernel
theorem dX7_markOf_21 : decode cX7_markOf 21 = .ok (.aload_n 0, 1) := by decide +kernel
theorem dX7_markOf_22 : decode cX7_markOf 22 = .ok (.bipush 20, 2) := by decide +kernel
theorem dX7_markOf_24 : decode cX7_markOf 24 = .ok (.invokevirtual 289, 3) := by decide +kernel
theorem dX7_markOf_27 : decode cX7_markOf 27 = .ok (.iload_n 1, 1) := by decide +kernel
theorem dX7_markOf_28 : decode cX7_markOf 28 = .ok (.aload_n 0, 1) := by decide +kernel
theorem dX7_markOf_29 : decode cX7_markOf 29 = .ok (.iload_n 1, 1) := by decide +kernel
theorem dX7_markOf_30 : decode cX7_markOf 30 = .ok (.invokevirtual 295, 3) := by decide +kernel
theorem dX7_markOf_33 : decode cX7_markOf 33 = .ok (.isub, 1) := by decide +kernel
theorem dX7_markOf_34 : decode cX7_markOf 34 = .ok (.ireturn, 1) := by decide +kernel
theorem dX7_markOf_35 : decode cX7_markOf 35 = .ok (.iload_n 2, 1) := by decide +kernel
theorem dX7_markOf_36 : decode cX7_markOf 36 = .ok (.iconst 1, 1) := by decide +kernel
theorem dX7_markOf_37 : decode cX7_markOf 37 = .ok (.if_icmp .eq 19, 3) := by decide +kernel
theorem dX7_markOf_40 : decode cX7_markOf 40 = .ok (.aload_n 0, 1) := by decide +kernel
theorem dX7_markOf_41 : decode cX7_markOf 41 = .ok (.iload_n 2, 1) := by decide +kernel
theorem dX7_markOf_42 : decode cX7_markOf 42 = .ok (.iconst 3, 1) := by decide +kernel
theorem dX7_markOf_43 : decode cX7_markOf 43 = .ok (.if_icmp .ne 8, 3) := by decide +kernel
theorem dX7_markOf_46 : decode cX7_markOf 46 = .ok (.bipush 22, 2) := by decide +kernel
theorem dX7_markOf_48 : decode cX7_markOf 48 = .ok (.goto 5, 3) := by decide +kernel
theorem dX7_markOf_51 : decode cX7_markOf 51 = .ok (.bipush 24, 2) := by decide +kernel
theorem dX7_markOf_53 : decode cX7_markOf 53 = .ok (.invokevirtual 289, 3) := by decide +kernel
theorem dX7_markOf_56 : decode cX7_markOf 56 = .ok (.aload_n 0, 1) := by decide +kernel
theorem dX7_markOf_57 : decode cX7_markOf 57 = .ok (.bipush 21, 2) := by decide +kernel
theorem dX7_markOf_59 : decode cX7_markOf 59 = .ok (.invokevirtual 289, 3) := by decide +kernel
theorem dX7_markOf_62 : decode cX7_markOf 62 = .ok (.aload_n 0, 1) := by decide +kernel
theorem dX7_markOf_63 : decode cX7_markOf 63 = .ok (.bipush 20, 2) := by decide +kernel
theorem dX7_markOf_65 : decode cX7_markOf 65 = .ok (.invokevirtual 289, 3) := by decide +kernel
theorem dX7_markOf_68 : decode cX7_markOf 68 = .ok (.iload_n 1, 1) := by decide +kernel
theorem dX7_markOf_69 : decode cX7_markOf 69 = .ok (.aload_n 0, 1) := by decide +kernel
theorem dX7_markOf_70 : decode cX7_markOf 70 = .ok (.getfield 19, 3) := by decide +kernel
theorem dX7_markOf_73 : decode cX7_markOf 73 = .ok (.iload_n 1, 1) := by decide +kernel
theorem dX7_markOf_74 : decode cX7_markOf 74 = .ok (.iconst 4, 1) := by decide +kernel
theorem dX7_markOf_75 : decode cX7_markOf 75 = .ok (.invokestatic 155, 3) := by decide +kernel
theorem dX7_markOf_78 : decode cX7_markOf 78 = .ok (.iadd, 1) := by decide +kernel
theorem dX7_markOf_79 : decode cX7_markOf 79 = .ok (.istore_n 3, 1) := by decide +kernel
theorem dX7_markOf_80 : decode cX7_markOf 80 = .ok (.iload_n 2, 1) := by decide +kernel
theorem dX7_markOf_81 : decode cX7_markOf 81 = .ok (.iconst 1, 1) := by decide +kernel
theorem dX7_markOf_82 : decode cX7_markOf 82 = .ok (.if_icmp .ne 7, 3) := by decide +kernel
theorem dX7_markOf_85 : decode cX7_markOf 85 = .ok (.iload_n 3, 1) := by decide +kernel
theorem dX7_markOf_86 : decode cX7_markOf 86 = .ok (.goto 19, 3) := by decide +kernel
theorem dX7_markOf_89 : decode cX7_markOf 89 = .ok (.iload_n 2, 1) := by decide +kernel
theorem dX7_markOf_90 : decode cX7_markOf 90 = .ok (.iconst 3, 1) := by decide +kernel
theorem dX7_markOf_91 : decode cX7_markOf 91 = .ok (.if_icmp .ne 11, 3) := by decide +kernel
theorem dX7_markOf_94 : decode cX7_markOf 94 = .ok (.iload_n 3, 1) := by decide +kernel
theorem dX7_markOf_95 : decode cX7_markOf 95 = .ok (.sipush 1000, 3) := by decide +kernel
theorem dX7_markOf_98 : decode cX7_markOf 98 = .ok (.isub, 1) := by decide +kernel
theorem dX7_markOf_99 : decode cX7_markOf 99 = .ok (.goto 6, 3) := by decide +kernel
theorem dX7_markOf_102 : decode cX7_markOf 102 = .ok (.iconst 2, 1) := by decide +kernel
theorem dX7_markOf_103 : decode cX7_markOf 103 = .ok (.iload_n 3, 1) := by decide +kernel
theorem dX7_markOf_104 : decode cX7_markOf 104 = .ok (.imul, 1) := by decide +kernel
theorem dX7_markOf_105 : decode cX7_markOf 105 = .ok (.ireturn, 1) := by decide +kernel
theorem dX7_sizeOf_0 : decode cX7_sizeOf 0 = .ok (.aload_n 0, 1) := by decide +kernel
theorem dX7_sizeOf_1 : decode cX7_sizeOf 1 = .ok (.getfield 19, 3) := by decide +kernel
theorem dX7_sizeOf_4 : decode cX7_sizeOf 4 = .ok (.iload_n 1, 1) := by decide +kernel
theorem dX7_sizeOf_5 : decode cX7_sizeOf 5 = .ok (.iconst 0, 1) := by decide +kernel
theorem dX7_sizeOf_6 : decode cX7_sizeOf 6 = .ok (.invokestatic 155, 3) := by decide +kernel
theorem dX7_sizeOf_9 : decode cX7_sizeOf 9 = .ok (.istore_n 2, 1) := by decide +kernel
theorem dX7_sizeOf_10 : decode cX7_sizeOf 10 = .ok (.iload_n 2, 1) := by decide +kernel
theorem dX7_sizeOf_11 : decode cX7_sizeOf 11 = .ok (.iconst 4, 1) := by decide +kernel
theorem dX7_sizeOf_12 : decode cX7_sizeOf 12 = .ok (.if_icmp .lt 9, 3) := by decide +kernel
theorem dX7_sizeOf_15 : decode cX7_sizeOf 15 = .ok (.aload_n 0, 1) := by decide +kernel
theorem dX7_sizeOf_16 : decode cX7_sizeOf 16 = .ok (.iload_n 1, 1) := by decide +kernel
theorem dX7_sizeOf_17 : decode cX7_sizeOf 17 = .ok (.invokevirtual 295, 3) := by decide +kernel
theorem dX7_sizeOf_20 : decode cX7_sizeOf 20 = .ok (.ireturn, 1) := by decide +kernel
theorem dX7_sizeOf_21 : decode cX7_sizeOf 21 = .ok (.iload_n 2, 1) := by decide +kernel
theorem dX7_sizeOf_22 : decode cX7_sizeOf 22 = .ok (.iconst 2, 1) := by decide +kernel
theorem dX7_sizeOf_23 : decode cX7_sizeOf 23 = .ok (.if_icmp .ne 9, 3) := by decide +kernel
theorem dX7_sizeOf_26 : decode cX7_sizeOf 26 = .ok (.aload_n 0, 1) := by decide +kernel
theorem dX7_sizeOf_27 : decode cX7_sizeOf 27 = .ok (.bipush 12, 2) := by decide +kernel
theorem dX7_sizeOf_29 : decode cX7_sizeOf 29 = .ok (.invokevirtual 289, 3) := by decide +kernel
theorem dX7_sizeOf_32 : decode cX7_sizeOf 32 = .ok (.aload_n 0, 1) := by decide +kernel
theorem dX7_sizeOf_33 : decode cX7_sizeOf 33 = .ok (.bipush 11, 2) := by decide +kernel
theorem dX7_sizeOf_35 : decode cX7_sizeOf 35 = .ok (.invokevirtual 289, 3) := by decide +kernel
theorem dX7_sizeOf_38 : decode cX7_sizeOf 38 = .ok (.aload_n 0, 1) := by decide +kernel
theorem dX7_sizeOf_39 : decode cX7_sizeOf 39 = .ok (.iload_n 1, 1) := by decide +kernel
theorem dX7_sizeOf_40 : decode cX7_sizeOf 40 = .ok (.invokevirtual 292, 3) := by decide +kernel
theorem dX7_sizeOf_43 : decode cX7_sizeOf 43 = .ok (.istore_n 3, 1) := by decide +kernel
theorem dX7_sizeOf_44 : decode cX7_sizeOf 44 = .ok (.iload_n 3, 1) := by decide +kernel
theorem dX7_sizeOf_45 : decode cX7_sizeOf 45 = .ok (.aload_n 0, 1) := by decide +kernel
theorem dX7_sizeOf_46 : decode cX7_sizeOf 46 = .ok (.iload_n 1, 1) := by decide +kernel
theorem dX7_sizeOf_47 : decode cX7_sizeOf 47 = .ok (.invokevirtual 298, 3) := by decide +kernel
theorem dX7_sizeOf_50 : decode cX7_sizeOf 50 = .ok (.iadd, 1) := by decide +kernel
theorem dX7_sizeOf_51 : decode cX7_sizeOf 51 = .ok (.istore_n 3, 1) := by decide +kernel
theorem dX7_sizeOf_52 : decode cX7_sizeOf 52 = .ok (.iload_n 2, 1) := by decide +kernel
theorem dX7_sizeOf_53 : decode cX7_sizeOf 53 = .ok (.iconst 2, 1) := by decide +kernel
theorem dX7_sizeOf_54 : decode cX7_sizeOf 54 = .ok (.if_icmp .ne 8, 3) := by decide +kernel
theorem dX7_sizeOf_57 : decode cX7_sizeOf 57 = .ok (.iload_n 3, 1) := by decide +kernel
theorem dX7_sizeOf_58 : decode cX7_sizeOf 58 = .ok (.ineg, 1) := by decide +kernel
theorem dX7_sizeOf_59 : decode cX7_sizeOf 59 = .ok (.goto 4, 3) := by decide +kernel
theorem dX7_sizeOf_62 : decode cX7_sizeOf 62 = .ok (.iload_n 3, 1) := by decide +kernel
theorem dX7_sizeOf_63 : decode cX7_sizeOf 63 = .ok (.ireturn, 1) := by decide +kernel
theorem dX7_ask_0 : decode cX7_ask 0 = .ok (.aload_n 0, 1) := by decide +kernel
theorem dX7_ask_1 : decode cX7_ask 1 = .ok (.iconst 0, 1) := by decide +kernel
theorem dX7_ask_2 : decode cX7_ask 2 = .ok (.putfield 53, 3) := by decide +kernel
theorem dX7_ask_5 : decode cX7_ask 5 = .ok (.aload_n 0, 1) := by decide +kernel
theorem dX7_ask_6 : decode cX7_ask 6 = .ok (.iload_n 1, 1) := by decide +kernel
theorem dX7_ask_7 : decode cX7_ask 7 = .ok (.invokevirtual 204, 3) := by decide +kernel
theorem dX7_ask_10 : decode cX7_ask 10 = .ok (.ifCond .eq 13, 3) := by decide +kernel
theorem dX7_ask_13 : decode cX7_ask 13 = .ok (.iload_n 2, 1) := by decide +kernel
theorem dX7_ask_14 : decode cX7_ask 14 = .ok (.i2l, 1) := by decide +kernel
theorem dX7_ask_15 : decode cX7_ask 15 = .ok (.lconst 0, 1) := by decide +kernel
theorem dX7_ask_16 : decode cX7_ask 16 = .ok (.lconst 1, 1) := by decide +kernel
theorem dX7_ask_17 : decode cX7_ask 17 = .ok (.invokestatic 63, 3) := by decide +kernel
theorem dX7_ask_20 : decode cX7_ask 20 = .ok (.ifCond .ne 6, 3) := by decide +kernel
theorem dX7_ask_23 : decode cX7_ask 23 = .ok (.ldc 73, 2) := by decide +kernel
theorem dX7_ask_25 : decode cX7_ask 25 = .ok (.ireturn, 1) := by decide +kernel
theorem dX7_ask_26 : decode cX7_ask 26 = .ok (.aload_n 0, 1) := by decide +kernel
theorem dX7_ask_27 : decode cX7_ask 27 = .ok (.iconst 0, 1) := by decide +kernel
theorem dX7_ask_28 : decode cX7_ask 28 = .ok (.putfield 286, 3) := by decide +kernel
theorem dX7_ask_31 : decode cX7_ask 31 = .ok (.iload_n 2, 1) := by decide +kernel
theorem dX7_ask_32 : decode cX7_ask 32 = .ok (.ifCond .ne 11, 3) := by decide +kernel
theorem dX7_ask_35 : decode cX7_ask 35 = .ok (.aload_n 0, 1) := by decide +kernel
theorem dX7_ask_36 : decode cX7_ask 36 = .ok (.iload_n 1, 1) := by decide +kernel
theorem dX7_ask_37 : decode cX7_ask 37 = .ok (.invokevirtual 301, 3) := by decide +kernel
theorem dX7_ask_40 : decode cX7_ask 40 = .ok (.goto 8, 3) := by decide +kernel
theorem dX7_ask_43 : decode cX7_ask 43 = .ok (.aload_n 0, 1) := by decide +kernel
theorem dX7_ask_44 : decode cX7_ask 44 = .ok (.iload_n 1, 1) := by decide +kernel
theorem dX7_ask_45 : decode cX7_ask 45 = .ok (.invokevirtual 298, 3) := by decide +kernel
theorem dX7_ask_48 : decode cX7_ask 48 = .ok (.ireturn, 1) := by decide +kernel
theorem dX7_trace_0 : decode cX7_trace 0 = .ok (.aload_n 0, 1) := by decide +kernel
theorem dX7_trace_1 : decode cX7_trace 1 = .ok (.iconst 0, 1) := by decide +kernel
theorem dX7_trace_2 : decode cX7_trace 2 = .ok (.putfield 53, 3) := by decide +kernel
theorem dX7_trace_5 : decode cX7_trace 5 = .ok (.iload_n 1, 1) := by decide +kernel
theorem dX7_trace_6 : decode cX7_trace 6 = .ok (.i2l, 1) := by decide +kernel
theorem dX7_trace_7 : decode cX7_trace 7 = .ok (.lconst 0, 1) := by decide +kernel
theorem dX7_trace_8 : decode cX7_trace 8 = .ok (.aload_n 0, 1) := by decide +kernel
theorem dX7_trace_9 : decode cX7_trace 9 = .ok (.getfield 286, 3) := by decide +kernel
theorem dX7_trace_12 : decode cX7_trace 12 = .ok (.iconst 1, 1) := by decide +kernel
theorem dX7_trace_13 : decode cX7_trace 13 = .ok (.isub, 1) := by decide +kernel
theorem dX7_trace_14 : decode cX7_trace 14 = .ok (.i2l, 1) := by decide +kernel
theorem dX7_trace_15 : decode cX7_trace 15 = .ok (.invokestatic 63, 3) := by decide +kernel
theorem dX7_trace_18 : decode cX7_trace 18 = .ok (.ifCond .eq 12, 3) := by decide +kernel
theorem dX7_trace_21 : decode cX7_trace 21 = .ok (.aload_n 0, 1) := by decide +kernel
theorem dX7_trace_22 : decode cX7_trace 22 = .ok (.getfield 50, 3) := by decide +kernel
theorem dX7_trace_25 : decode cX7_trace 25 = .ok (.iload_n 1, 1) := by decide +kernel
theorem dX7_trace_26 : decode cX7_trace 26 = .ok (.iaload, 1) := by decide +kernel
theorem dX7_trace_27 : decode cX7_trace 27 = .ok (.goto 5, 3) := by decide +kernel
theorem dX7_trace_30 : decode cX7_trace 30 = .ok (.ldc 96, 2) := by decide +kernel
theorem dX7_trace_32 : decode cX7_trace 32 = .ok (.ireturn, 1) := by decide +kernel
theorem dX7_count_0 : decode cX7_count 0 = .ok (.aload_n 0, 1) := by decide +kernel
theorem dX7_count_1 : decode cX7_count 1 = .ok (.iconst 0, 1) := by decide +kernel
theorem dX7_count_2 : decode cX7_count 2 = .ok (.putfield 53, 3) := by decide +kernel
theorem dX7_count_5 : decode cX7_count 5 = .ok (.iconst 0, 1) := by decide +kernel
theorem dX7_count_6 : decode cX7_count 6 = .ok (.istore_n 2, 1) := by decide +kernel
theorem dX7_count_7 : decode cX7_count 7 = .ok (.iload_n 1, 1) := by decide +kernel
theorem dX7_count_8 : decode cX7_count 8 = .ok (.tableswitch 149 0 6 #[44, 77, 84, 91, 131, 139, 144], 44) := by decide +kernel
theorem dX7_count_52 : decode cX7_count 52 = .ok (.iconst 0, 1) := by decide +kernel
theorem dX7_count_53 : decode cX7_count 53 = .ok (.istore_n 3, 1) := by decide +kernel
theorem dX7_count_54 : decode cX7_count 54 = .ok (.iload_n 3, 1) := by decide +kernel
theorem dX7_count_55 : decode cX7_count 55 = .ok (.bipush 8, 2) := by decide +kernel
theorem dX7_count_57 : decode cX7_count 57 = .ok (.if_icmp .ge 26, 3) := by decide +kernel
theorem dX7_count_60 : decode cX7_count 60 = .ok (.iload_n 2, 1) := by decide +kernel
theorem dX7_count_61 : decode cX7_count 61 = .ok (.aload_n 0, 1) := by decide +kernel
theorem dX7_count_62 : decode cX7_count 62 = .ok (.getfield 7, 3) := by decide +kernel
theorem dX7_count_65 : decode cX7_count 65 = .ok (.iload_n 3, 1) := by decide +kernel
theorem dX7_count_66 : decode cX7_count 66 = .ok (.iaload, 1) := by decide +kernel
theorem dX7_count_67 : decode cX7_count 67 = .ok (.ifCond .lt 7, 3) := by decide +kernel
theorem dX7_count_70 : decode cX7_count 70 = .ok (.iconst 1, 1) := by decide +kernel
theorem dX7_count_71 : decode cX7_count 71 = .ok (.goto 4, 3) := by decide +kernel
theorem dX7_count_74 : decode cX7_count 74 = .ok (.iconst 0, 1) := by decide +kernel
theorem dX7_count_75 : decode cX7_count 75 = .ok (.iadd, 1) := by decide +kernel
theorem dX7_count_76 : decode cX7_count 76 = .ok (.istore_n 2, 1) := by decide +kernel
theorem dX7_count_77 : decode cX7_count 77 = .ok (.iinc 3 1, 3) := by decide +kernel
theorem dX7_count_80 : decode cX7_count 80 = .ok (.goto (-26), 3) := by decide +kernel
theorem dX7_count_83 : decode cX7_count 83 = .ok (.iload_n 2, 1) := by decide +kernel
theorem dX7_count_84 : decode cX7_count 84 = .ok (.ireturn, 1) := by decide +kernel
theorem dX7_count_85 : decode cX7_count 85 = .ok (.aload_n 0, 1) := by decide +kernel
theorem dX7_count_86 : decode cX7_count 86 = .ok (.getfield 19, 3) := by decide +kernel
theorem dX7_count_89 : decode cX7_count 89 = .ok (.iconst 5, 1) := by decide +kernel
theorem dX7_count_90 : decode cX7_count 90 = .ok (.iaload, 1) := by decide +kernel
theorem dX7_count_91 : decode cX7_count 91 = .ok (.ireturn, 1) := by decide +kernel
theorem dX7_count_92 : decode cX7_count 92 = .ok (.aload_n 0, 1) := by decide +kernel
theorem dX7_count_93 : decode cX7_count 93 = .ok (.getfield 19, 3) := by decide +kernel
theorem dX7_count_96 : decode cX7_count 96 = .ok (.iconst 0, 1) := by decide +kernel
theorem dX7_count_97 : decode cX7_count 97 = .ok (.iaload, 1) := by decide +kernel
theorem dX7_count_98 : decode cX7_count 98 = .ok (.ireturn, 1) := by decide +kernel
theorem dX7_count_99 : decode cX7_count 99 = .ok (.iconst 0, 1) := by decide +kernel
theorem dX7_count_100 : decode cX7_count 100 = .ok (.istore_n 3, 1) := by decide +kernel
theorem dX7_count_101 : decode cX7_count 101 = .ok (.iload_n 3, 1) := by decide +kernel
theorem dX7_count_102 : decode cX7_count 102 = .ok (.aload_n 0, 1) := by decide +kernel
theorem dX7_count_103 : decode cX7_count 103 = .ok (.getfield 19, 3) := by decide +kernel
theorem dX7_count_106 : decode cX7_count 106 = .ok (.iconst 0, 1) := by decide +kernel
theorem dX7_count_107 : decode cX7_count 107 = .ok (.iaload, 1) := by decide +kernel
theorem dX7_count_108 : decode cX7_count 108 = .ok (.if_icmp .ge 29, 3) := by decide +kernel
theorem dX7_count_111 : decode cX7_count 111 = .ok (.iload_n 2, 1) := by decide +kernel
theorem dX7_count_112 : decode cX7_count 112 = .ok (.aload_n 0, 1) := by decide +kernel
theorem dX7_count_113 : decode cX7_count 113 = .ok (.getfield 19, 3) := by decide +kernel
theorem dX7_count_116 : decode cX7_count 116 = .ok (.bipush 36, 2) := by decide +kernel
theorem dX7_count_118 : decode cX7_count 118 = .ok (.iload_n 3, 1) := by decide +kernel
theorem dX7_count_119 : decode cX7_count 119 = .ok (.iadd, 1) := by decide +kernel
theorem dX7_count_120 : decode cX7_count 120 = .ok (.iaload, 1) := by decide +kernel
theorem dX7_count_121 : decode cX7_count 121 = .ok (.ifCond .lt 7, 3) := by decide +kernel
theorem dX7_count_124 : decode cX7_count 124 = .ok (.iconst 1, 1) := by decide +kernel
theorem dX7_count_125 : decode cX7_count 125 = .ok (.goto 4, 3) := by decide +kernel
theorem dX7_count_128 : decode cX7_count 128 = .ok (.iconst 0, 1) := by decide +kernel
theorem dX7_count_129 : decode cX7_count 129 = .ok (.iadd, 1) := by decide +kernel
theorem dX7_count_130 : decode cX7_count 130 = .ok (.istore_n 2, 1) := by decide +kernel
theorem dX7_count_131 : decode cX7_count 131 = .ok (.iinc 3 1, 3) := by decide +kernel
theorem dX7_count_134 : decode cX7_count 134 = .ok (.goto (-33), 3) := by decide +kernel
theorem dX7_count_137 : decode cX7_count 137 = .ok (.iload_n 2, 1) := by decide +kernel
theorem dX7_count_138 : decode cX7_count 138 = .ok (.ireturn, 1) := by decide +kernel
theorem dX7_count_139 : decode cX7_count 139 = .ok (.aload_n 0, 1) := by decide +kernel
theorem dX7_count_140 : decode cX7_count 140 = .ok (.getfield 19, 3) := by decide +kernel
theorem dX7_count_143 : decode cX7_count 143 = .ok (.invokestatic 304, 3) := by decide +kernel
theorem dX7_count_146 : decode cX7_count 146 = .ok (.ireturn, 1) := by decide +kernel
theorem dX7_count_147 : decode cX7_count 147 = .ok (.aload_n 0, 1) := by decide +kernel
theorem dX7_count_148 : decode cX7_count 148 = .ok (.getfield 152, 3) := by decide +kernel
theorem dX7_count_151 : decode cX7_count 151 = .ok (.ireturn, 1) := by decide +kernel
theorem dX7_count_152 : decode cX7_count 152 = .ok (.aload_n 0, 1) := by decide +kernel
theorem dX7_count_153 : decode cX7_count 153 = .ok (.getfield 80, 3) := by decide +kernel
theorem dX7_count_156 : decode cX7_count 156 = .ok (.ireturn, 1) := by decide +kernel
theorem dX7_count_157 : decode cX7_count 157 = .ok (.ldc 73, 2) := by decide +kernel
theorem dX7_count_159 : decode cX7_count 159 = .ok (.ireturn, 1) := by decide +kernel
theorem dX7_status_0 : decode cX7_status 0 = .ok (.aload_n 0, 1) := by decide +kernel
theorem dX7_status_1 : decode cX7_status 1 = .ok (.iconst 0, 1) := by decide +kernel
theorem dX7_status_2 : decode cX7_status 2 = .ok (.putfield 53, 3) := by decide +kernel
theorem dX7_status_5 : decode cX7_status 5 = .ok (.aload_n 0, 1) := by decide +kernel
theorem dX7_status_6 : decode cX7_status 6 = .ok (.getfield 57, 3) := by decide +kernel
theorem dX7_status_9 : decode cX7_status 9 = .ok (.ireturn, 1) := by decide +kernel
