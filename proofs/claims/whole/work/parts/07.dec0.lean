theorem dJ6_bitCount_0f7a4_0 : decode YJ6_bitCount_0f7a4.2.1 0 = .ok (.iload_n 0, 1) := by decide +kernel
theorem dJ6_bitCount_0f7a4_1 : decode YJ6_bitCount_0f7a4.2.1 1 = .ok (.iload_n 0, 1) := by decide +kernel
theorem dJ6_bitCount_0f7a4_2 : decode YJ6_bitCount_0f7a4.2.1 2 = .ok (.iconst 1, 1) := by decide +kernel
theorem dJ6_bitCount_0f7a4_3 : decode YJ6_bitCount_0f7a4.2.1 3 = .ok (.iushr, 1) := by decide +kernel
theorem dJ6_bitCount_0f7a4_4 : decode YJ6_bitCount_0f7a4.2.1 4 = .ok (.ldc_w 265, 3) := by decide +kernel
theorem dJ6_bitCount_0f7a4_7 : decode YJ6_bitCount_0f7a4.2.1 7 = .ok (.iand, 1) := by decide +kernel
theorem dJ6_bitCount_0f7a4_8 : decode YJ6_bitCount_0f7a4.2.1 8 = .ok (.isub, 1) := by decide +kernel
theorem dJ6_bitCount_0f7a4_9 : decode YJ6_bitCount_0f7a4.2.1 9 = .ok (.istore_n 0, 1) := by decide +kernel
theorem dJ6_bitCount_0f7a4_10 : decode YJ6_bitCount_0f7a4.2.1 10 = .ok (.iload_n 0, 1) := by decide +kernel
theorem dJ6_bitCount_0f7a4_11 : decode YJ6_bitCount_0f7a4.2.1 11 = .ok (.ldc_w 266, 3) := by decide +kernel
theorem dJ6_bitCount_0f7a4_14 : decode YJ6_bitCount_0f7a4.2.1 14 = .ok (.iand, 1) := by decide +kernel
theorem dJ6_bitCount_0f7a4_15 : decode YJ6_bitCount_0f7a4.2.1 15 = .ok (.iload_n 0, 1) := by decide +kernel
theorem dJ6_bitCount_0f7a4_16 : decode YJ6_bitCount_0f7a4.2.1 16 = .ok (.iconst 2, 1) := by decide +kernel
theorem dJ6_bitCount_0f7a4_17 : decode YJ6_bitCount_0f7a4.2.1 17 = .ok (.iushr, 1) := by decide +kernel
theorem dJ6_bitCount_0f7a4_18 : decode YJ6_bitCount_0f7a4.2.1 18 = .ok (.ldc_w 266, 3) := by decide +kernel
theorem dJ6_bitCount_0f7a4_21 : decode YJ6_bitCount_0f7a4.2.1 21 = .ok (.iand, 1) := by decide +kernel
theorem dJ6_bitCount_0f7a4_22 : decode YJ6_bitCount_0f7a4.2.1 22 = .ok (.iadd, 1) := by decide +kernel
theorem dJ6_bitCount_0f7a4_23 : decode YJ6_bitCount_0f7a4.2.1 23 = .ok (.istore_n 0, 1) := by decide +kernel
theorem dJ6_bitCount_0f7a4_24 : decode YJ6_bitCount_0f7a4.2.1 24 = .ok (.iload_n 0, 1) := by decide +kernel
theorem dJ6_bitCount_0f7a4_25 : decode YJ6_bitCount_0f7a4.2.1 25 = .ok (.iload_n 0, 1) := by decide +kernel
theorem dJ6_bitCount_0f7a4_26 : decode YJ6_bitCount_0f7a4.2.1 26 = .ok (.iconst 4, 1) := by decide +kernel
theorem dJ6_bitCount_0f7a4_27 : decode YJ6_bitCount_0f7a4.2.1 27 = .ok (.iushr, 1) := by decide +kernel
theorem dJ6_bitCount_0f7a4_28 : decode YJ6_bitCount_0f7a4.2.1 28 = .ok (.iadd, 1) := by decide +kernel
theorem dJ6_bitCount_0f7a4_29 : decode YJ6_bitCount_0f7a4.2.1 29 = .ok (.ldc_w 267, 3) := by decide +kernel
theorem dJ6_bitCount_0f7a4_32 : decode YJ6_bitCount_0f7a4.2.1 32 = .ok (.iand, 1) := by decide +kernel
theorem dJ6_bitCount_0f7a4_33 : decode YJ6_bitCount_0f7a4.2.1 33 = .ok (.istore_n 0, 1) := by decide +kernel
theorem dJ6_bitCount_0f7a4_34 : decode YJ6_bitCount_0f7a4.2.1 34 = .ok (.iload_n 0, 1) := by decide +kernel
theorem dJ6_bitCount_0f7a4_35 : decode YJ6_bitCount_0f7a4.2.1 35 = .ok (.iload_n 0, 1) := by decide +kernel
theorem dJ6_bitCount_0f7a4_36 : decode YJ6_bitCount_0f7a4.2.1 36 = .ok (.bipush 8, 2) := by decide +kernel
theorem dJ6_bitCount_0f7a4_38 : decode YJ6_bitCount_0f7a4.2.1 38 = .ok (.iushr, 1) := by decide +kernel
theorem dJ6_bitCount_0f7a4_39 : decode YJ6_bitCount_0f7a4.2.1 39 = .ok (.iadd, 1) := by decide +kernel
theorem dJ6_bitCount_0f7a4_40 : decode YJ6_bitCount_0f7a4.2.1 40 = .ok (.istore_n 0, 1) := by decide +kernel
theorem dJ6_bitCount_0f7a4_41 : decode YJ6_bitCount_0f7a4.2.1 41 = .ok (.iload_n 0, 1) := by decide +kernel
theorem dJ6_bitCount_0f7a4_42 : decode YJ6_bitCount_0f7a4.2.1 42 = .ok (.iload_n 0, 1) := by decide +kernel
theorem dJ6_bitCount_0f7a4_43 : decode YJ6_bitCount_0f7a4.2.1 43 = .ok (.bipush 16, 2) := by decide +kernel
theorem dJ6_bitCount_0f7a4_45 : decode YJ6_bitCount_0f7a4.2.1 45 = .ok (.iushr, 1) := by decide +kernel
theorem dJ6_bitCount_0f7a4_46 : decode YJ6_bitCount_0f7a4.2.1 46 = .ok (.iadd, 1) := by decide +kernel
theorem dJ6_bitCount_0f7a4_47 : decode YJ6_bitCount_0f7a4.2.1 47 = .ok (.istore_n 0, 1) := by decide +kernel
theorem dJ6_bitCount_0f7a4_48 : decode YJ6_bitCount_0f7a4.2.1 48 = .ok (.iload_n 0, 1) := by decide +kernel
theorem dJ6_bitCount_0f7a4_49 : decode YJ6_bitCount_0f7a4.2.1 49 = .ok (.bipush 63, 2) := by decide +kernel
theorem dJ6_bitCount_0f7a4_51 : decode YJ6_bitCount_0f7a4.2.1 51 = .ok (.iand, 1) := by decide +kernel
theorem dJ6_bitCount_0f7a4_52 : decode YJ6_bitCount_0f7a4.2.1 52 = .ok (.ireturn, 1) := by decide +kernel
theorem dJ6_lowestOneBit_0f7a4_0 : decode YJ6_lowestOneBit_0f7a4.2.1 0 = .ok (.iload_n 0, 1) := by decide +kernel
theorem dJ6_lowestOneBit_0f7a4_1 : decode YJ6_lowestOneBit_0f7a4.2.1 1 = .ok (.iload_n 0, 1) := by decide +kernel
theorem dJ6_lowestOneBit_0f7a4_2 : decode YJ6_lowestOneBit_0f7a4.2.1 2 = .ok (.ineg, 1) := by decide +kernel
theorem dJ6_lowestOneBit_0f7a4_3 : decode YJ6_lowestOneBit_0f7a4.2.1 3 = .ok (.iand, 1) := by decide +kernel
theorem dJ6_lowestOneBit_0f7a4_4 : decode YJ6_lowestOneBit_0f7a4.2.1 4 = .ok (.ireturn, 1) := by decide +kernel
theorem dJ7_fill_53178_0 : decode YJ7_fill_53178.2.1 0 = .ok (.iconst 0, 1) := by decide +kernel
theorem dJ7_fill_53178_1 : decode YJ7_fill_53178.2.1 1 = .ok (.istore_n 2, 1) := by decide +kernel
theorem dJ7_fill_53178_2 : decode YJ7_fill_53178.2.1 2 = .ok (.aload_n 0, 1) := by decide +kernel
theorem dJ7_fill_53178_3 : decode YJ7_fill_53178.2.1 3 = .ok (.arraylength, 1) := by decide +kernel
theorem dJ7_fill_53178_4 : decode YJ7_fill_53178.2.1 4 = .ok (.istore_n 3, 1) := by decide +kernel
theorem dJ7_fill_53178_5 : decode YJ7_fill_53178.2.1 5 = .ok (.iload_n 2, 1) := by decide +kernel
theorem dJ7_fill_53178_6 : decode YJ7_fill_53178.2.1 6 = .ok (.iload_n 3, 1) := by decide +kernel
theorem dJ7_fill_53178_7 : decode YJ7_fill_53178.2.1 7 = .ok (.if_icmp .ge 13, 3) := by decide +kernel
theorem dJ7_fill_53178_10 : decode YJ7_fill_53178.2.1 10 = .ok (.aload_n 0, 1) := by decide +kernel
theorem dJ7_fill_53178_11 : decode YJ7_fill_53178.2.1 11 = .ok (.iload_n 2, 1) := by decide +kernel
theorem dJ7_fill_53178_12 : decode YJ7_fill_53178.2.1 12 = .ok (.iload_n 1, 1) := by decide +kernel
theorem dJ7_fill_53178_13 : decode YJ7_fill_53178.2.1 13 = .ok (.iastore, 1) := by decide +kernel
theorem dJ7_fill_53178_14 : decode YJ7_fill_53178.2.1 14 = .ok (.iinc 2 1, 3) := by decide +kernel
theorem dJ7_fill_53178_17 : decode YJ7_fill_53178.2.1 17 = .ok (.goto (-12), 3) := by decide +kernel
theorem dJ7_fill_53178_20 : decode YJ7_fill_53178.2.1 20 = .ok (.return_, 1) := by decide +kernel
theorem dX0_doLine_0 : decode YX0_doLine.2.1 0 = .ok (.aload_n 0, 1) := by decide +kernel
theorem dX0_doLine_1 : decode YX0_doLine.2.1 1 = .ok (.getfield 11, 3) := by decide +kernel
theorem dX0_doLine_4 : decode YX0_doLine.2.1 4 = .ok (.iload_n 3, 1) := by decide +kernel
theorem dX0_doLine_5 : decode YX0_doLine.2.1 5 = .ok (.iaload, 1) := by decide +kernel
theorem dX0_doLine_6 : decode YX0_doLine.2.1 6 = .ok (.tableswitch 108 5 8 #[30, 48, 64, 80], 30) := by decide +kernel
theorem dX0_doLine_36 : decode YX0_doLine.2.1 36 = .ok (.aload_n 2, 1) := by decide +kernel
theorem dX0_doLine_37 : decode YX0_doLine.2.1 37 = .ok (.aload_n 1, 1) := by decide +kernel
theorem dX0_doLine_38 : decode YX0_doLine.2.1 38 = .ok (.aload_n 0, 1) := by decide +kernel
theorem dX0_doLine_39 : decode YX0_doLine.2.1 39 = .ok (.getfield 15, 3) := by decide +kernel
theorem dX0_doLine_42 : decode YX0_doLine.2.1 42 = .ok (.iload_n 3, 1) := by decide +kernel
theorem dX0_doLine_43 : decode YX0_doLine.2.1 43 = .ok (.iaload, 1) := by decide +kernel
theorem dX0_doLine_44 : decode YX0_doLine.2.1 44 = .ok (.aload_n 0, 1) := by decide +kernel
theorem dX0_doLine_45 : decode YX0_doLine.2.1 45 = .ok (.getfield 18, 3) := by decide +kernel
theorem dX0_doLine_48 : decode YX0_doLine.2.1 48 = .ok (.iload_n 3, 1) := by decide +kernel
theorem dX0_doLine_49 : decode YX0_doLine.2.1 49 = .ok (.iaload, 1) := by decide +kernel
theorem dX0_doLine_50 : decode YX0_doLine.2.1 50 = .ok (.invokevirtual 98, 3) := by decide +kernel
theorem dX0_doLine_53 : decode YX0_doLine.2.1 53 = .ok (.ireturn, 1) := by decide +kernel
theorem dX0_doLine_54 : decode YX0_doLine.2.1 54 = .ok (.aload_n 2, 1) := by decide +kernel
theorem dX0_doLine_55 : decode YX0_doLine.2.1 55 = .ok (.aload_n 0, 1) := by decide +kernel
theorem dX0_doLine_56 : decode YX0_doLine.2.1 56 = .ok (.getfield 15, 3) := by decide +kernel
theorem dX0_doLine_59 : decode YX0_doLine.2.1 59 = .ok (.iload_n 3, 1) := by decide +kernel
theorem dX0_doLine_60 : decode YX0_doLine.2.1 60 = .ok (.iaload, 1) := by decide +kernel
theorem dX0_doLine_61 : decode YX0_doLine.2.1 61 = .ok (.invokevirtual 102, 3) := by decide +kernel
theorem dX0_doLine_64 : decode YX0_doLine.2.1 64 = .ok (.bipush 10, 2) := by decide +kernel
theorem dX0_doLine_66 : decode YX0_doLine.2.1 66 = .ok (.invokestatic 106, 3) := by decide +kernel
theorem dX0_doLine_69 : decode YX0_doLine.2.1 69 = .ok (.ireturn, 1) := by decide +kernel
theorem dX0_doLine_70 : decode YX0_doLine.2.1 70 = .ok (.aload_n 2, 1) := by decide +kernel
theorem dX0_doLine_71 : decode YX0_doLine.2.1 71 = .ok (.aload_n 0, 1) := by decide +kernel
theorem dX0_doLine_72 : decode YX0_doLine.2.1 72 = .ok (.getfield 15, 3) := by decide +kernel
theorem dX0_doLine_75 : decode YX0_doLine.2.1 75 = .ok (.iload_n 3, 1) := by decide +kernel
theorem dX0_doLine_76 : decode YX0_doLine.2.1 76 = .ok (.iaload, 1) := by decide +kernel
theorem dX0_doLine_77 : decode YX0_doLine.2.1 77 = .ok (.invokevirtual 109, 3) := by decide +kernel
theorem dX0_doLine_80 : decode YX0_doLine.2.1 80 = .ok (.bipush 20, 2) := by decide +kernel
theorem dX0_doLine_82 : decode YX0_doLine.2.1 82 = .ok (.invokestatic 106, 3) := by decide +kernel
theorem dX0_doLine_85 : decode YX0_doLine.2.1 85 = .ok (.ireturn, 1) := by decide +kernel
theorem dX0_doLine_86 : decode YX0_doLine.2.1 86 = .ok (.aload_n 2, 1) := by decide +kernel
theorem dX0_doLine_87 : decode YX0_doLine.2.1 87 = .ok (.aload_n 0, 1) := by decide +kernel
theorem dX0_doLine_88 : decode YX0_doLine.2.1 88 = .ok (.getfield 15, 3) := by decide +kernel
theorem dX0_doLine_91 : decode YX0_doLine.2.1 91 = .ok (.iload_n 3, 1) := by decide +kernel
theorem dX0_doLine_92 : decode YX0_doLine.2.1 92 = .ok (.iaload, 1) := by decide +kernel
theorem dX0_doLine_93 : decode YX0_doLine.2.1 93 = .ok (.aload_n 0, 1) := by decide +kernel
theorem dX0_doLine_94 : decode YX0_doLine.2.1 94 = .ok (.getfield 18, 3) := by decide +kernel
theorem dX0_doLine_97 : decode YX0_doLine.2.1 97 = .ok (.iload_n 3, 1) := by decide +kernel
theorem dX0_doLine_98 : decode YX0_doLine.2.1 98 = .ok (.iaload, 1) := by decide +kernel
theorem dX0_doLine_99 : decode YX0_doLine.2.1 99 = .ok (.aload_n 0, 1) := by decide +kernel
theorem dX0_doLine_100 : decode YX0_doLine.2.1 100 = .ok (.getfield 21, 3) := by decide +kernel
theorem dX0_doLine_103 : decode YX0_doLine.2.1 103 = .ok (.iload_n 3, 1) := by decide +kernel
theorem dX0_doLine_104 : decode YX0_doLine.2.1 104 = .ok (.iaload, 1) := by decide +kernel
theorem dX0_doLine_105 : decode YX0_doLine.2.1 105 = .ok (.invokevirtual 112, 3) := by decide +kernel
theorem dX0_doLine_108 : decode YX0_doLine.2.1 108 = .ok (.bipush 30, 2) := by decide +kernel
theorem dX0_doLine_110 : decode YX0_doLine.2.1 110 = .ok (.invokestatic 106, 3) := by decide +kernel
theorem dX0_doLine_113 : decode YX0_doLine.2.1 113 = .ok (.ireturn, 1) := by decide +kernel
theorem dX0_doLine_114 : decode YX0_doLine.2.1 114 = .ok (.aload_n 0, 1) := by decide +kernel
theorem dX0_doLine_115 : decode YX0_doLine.2.1 115 = .ok (.getfield 21, 3) := by decide +kernel
theorem dX0_doLine_118 : decode YX0_doLine.2.1 118 = .ok (.iload_n 3, 1) := by decide +kernel
theorem dX0_doLine_119 : decode YX0_doLine.2.1 119 = .ok (.iaload, 1) := by decide +kernel
theorem dX0_doLine_120 : decode YX0_doLine.2.1 120 = .ok (.aload_n 2, 1) := by decide +kernel
theorem dX0_doLine_121 : decode YX0_doLine.2.1 121 = .ok (.invokevirtual 116, 3) := by decide +kernel
theorem dX0_doLine_124 : decode YX0_doLine.2.1 124 = .ok (.if_icmp .le 6, 3) := by decide +kernel
theorem dX0_doLine_127 : decode YX0_doLine.2.1 127 = .ok (.bipush 41, 2) := by decide +kernel
theorem dX0_doLine_129 : decode YX0_doLine.2.1 129 = .ok (.ireturn, 1) := by decide +kernel
theorem dX0_doLine_130 : decode YX0_doLine.2.1 130 = .ok (.aload_n 2, 1) := by decide +kernel
theorem dX0_doLine_131 : decode YX0_doLine.2.1 131 = .ok (.aload_n 1, 1) := by decide +kernel
theorem dX0_doLine_132 : decode YX0_doLine.2.1 132 = .ok (.aload_n 0, 1) := by decide +kernel
theorem dX0_doLine_133 : decode YX0_doLine.2.1 133 = .ok (.getfield 21, 3) := by decide +kernel
theorem dX0_doLine_136 : decode YX0_doLine.2.1 136 = .ok (.iload_n 3, 1) := by decide +kernel
theorem dX0_doLine_137 : decode YX0_doLine.2.1 137 = .ok (.iaload, 1) := by decide +kernel
theorem dX0_doLine_138 : decode YX0_doLine.2.1 138 = .ok (.invokevirtual 119, 3) := by decide +kernel
theorem dX0_doLine_141 : decode YX0_doLine.2.1 141 = .ok (.iconst 0, 1) := by decide +kernel
theorem dX0_doLine_142 : decode YX0_doLine.2.1 142 = .ok (.ireturn, 1) := by decide +kernel
theorem dX0_goodLines_0 : decode YX0_goodLines.2.1 0 = .ok (.aload_n 0, 1) := by decide +kernel
theorem dX0_goodLines_1 : decode YX0_goodLines.2.1 1 = .ok (.getfield 24, 3) := by decide +kernel
theorem dX0_goodLines_4 : decode YX0_goodLines.2.1 4 = .ok (.ireturn, 1) := by decide +kernel
theorem dX0_judge_0 : decode YX0_judge.2.1 0 = .ok (.iconst (-1), 1) := by decide +kernel
theorem dX0_judge_1 : decode YX0_judge.2.1 1 = .ok (.istore_n 3, 1) := by decide +kernel
theorem dX0_judge_2 : decode YX0_judge.2.1 2 = .ok (.aload_n 0, 1) := by decide +kernel
theorem dX0_judge_3 : decode YX0_judge.2.1 3 = .ok (.iconst 0, 1) := by decide +kernel
theorem dX0_judge_4 : decode YX0_judge.2.1 4 = .ok (.putfield 32, 3) := by decide +kernel
theorem dX0_judge_7 : decode YX0_judge.2.1 7 = .ok (.aload_n 0, 1) := by decide +kernel
theorem dX0_judge_8 : decode YX0_judge.2.1 8 = .ok (.iconst 0, 1) := by decide +kernel
theorem dX0_judge_9 : decode YX0_judge.2.1 9 = .ok (.putfield 24, 3) := by decide +kernel
theorem dX0_judge_12 : decode YX0_judge.2.1 12 = .ok (.iconst 0, 1) := by decide +kernel
theorem dX0_judge_13 : decode YX0_judge.2.1 13 = .ok (.istore 4, 2) := by decide +kernel
theorem dX0_judge_15 : decode YX0_judge.2.1 15 = .ok (.iload 4, 2) := by decide +kernel
theorem dX0_judge_17 : decode YX0_judge.2.1 17 = .ok (.aload_n 0, 1) := by decide +kernel
theorem dX0_judge_18 : decode YX0_judge.2.1 18 = .ok (.getfield 41, 3) := by decide +kernel
theorem dX0_judge_21 : decode YX0_judge.2.1 21 = .ok (.if_icmp .ge 51, 3) := by decide +kernel
theorem dX0_judge_24 : decode YX0_judge.2.1 24 = .ok (.iload 4, 2) := by decide +kernel
theorem dX0_judge_26 : decode YX0_judge.2.1 26 = .ok (.bipush 40, 2) := by decide +kernel
theorem dX0_judge_28 : decode YX0_judge.2.1 28 = .ok (.if_icmp .ge 44, 3) := by decide +kernel
theorem dX0_judge_31 : decode YX0_judge.2.1 31 = .ok (.aload_n 0, 1) := by decide +kernel
theorem dX0_judge_32 : decode YX0_judge.2.1 32 = .ok (.aload_n 0, 1) := by decide +kernel
theorem dX0_judge_33 : decode YX0_judge.2.1 33 = .ok (.aload_n 1, 1) := by decide +kernel
theorem dX0_judge_34 : decode YX0_judge.2.1 34 = .ok (.aload_n 2, 1) := by decide +kernel
theorem dX0_judge_35 : decode YX0_judge.2.1 35 = .ok (.iload 4, 2) := by decide +kernel
theorem dX0_judge_37 : decode YX0_judge.2.1 37 = .ok (.invokevirtual 86, 3) := by decide +kernel
theorem dX0_judge_40 : decode YX0_judge.2.1 40 = .ok (.putfield 32, 3) := by decide +kernel
theorem dX0_judge_43 : decode YX0_judge.2.1 43 = .ok (.aload_n 0, 1) := by decide +kernel
theorem dX0_judge_44 : decode YX0_judge.2.1 44 = .ok (.getfield 32, 3) := by decide +kernel
theorem dX0_judge_47 : decode YX0_judge.2.1 47 = .ok (.ifCond .eq 9, 3) := by decide +kernel
theorem dX0_judge_50 : decode YX0_judge.2.1 50 = .ok (.iload 4, 2) := by decide +kernel
theorem dX0_judge_52 : decode YX0_judge.2.1 52 = .ok (.istore_n 3, 1) := by decide +kernel
theorem dX0_judge_53 : decode YX0_judge.2.1 53 = .ok (.goto 19, 3) := by decide +kernel
theorem dX0_judge_56 : decode YX0_judge.2.1 56 = .ok (.aload_n 0, 1) := by decide +kernel
theorem dX0_judge_57 : decode YX0_judge.2.1 57 = .ok (.dup, 1) := by decide +kernel
theorem dX0_judge_58 : decode YX0_judge.2.1 58 = .ok (.getfield 24, 3) := by decide +kernel
theorem dX0_judge_61 : decode YX0_judge.2.1 61 = .ok (.iconst 1, 1) := by decide +kernel
theorem dX0_judge_62 : decode YX0_judge.2.1 62 = .ok (.iadd, 1) := by decide +kernel
theorem dX0_judge_63 : decode YX0_judge.2.1 63 = .ok (.putfield 24, 3) := by decide +kernel
theorem dX0_judge_66 : decode YX0_judge.2.1 66 = .ok (.iinc 4 1, 3) := by decide +kernel
theorem dX0_judge_69 : decode YX0_judge.2.1 69 = .ok (.goto (-54), 3) := by decide +kernel
theorem dX0_judge_72 : decode YX0_judge.2.1 72 = .ok (.aload_n 0, 1) := by decide +kernel
theorem dX0_judge_73 : decode YX0_judge.2.1 73 = .ok (.iconst 1, 1) := by decide +kernel
theorem dX0_judge_74 : decode YX0_judge.2.1 74 = .ok (.putfield 28, 3) := by decide +kernel
theorem dX0_judge_77 : decode YX0_judge.2.1 77 = .ok (.aload_n 0, 1) := by decide +kernel
theorem dX0_judge_78 : decode YX0_judge.2.1 78 = .ok (.aload_n 2, 1) := by decide +kernel
theorem dX0_judge_79 : decode YX0_judge.2.1 79 = .ok (.invokevirtual 90, 3) := by decide +kernel
theorem dX0_judge_82 : decode YX0_judge.2.1 82 = .ok (.putfield 35, 3) := by decide +kernel
theorem dX0_judge_85 : decode YX0_judge.2.1 85 = .ok (.aload_n 0, 1) := by decide +kernel
theorem dX0_judge_86 : decode YX0_judge.2.1 86 = .ok (.aload_n 2, 1) := by decide +kernel
theorem dX0_judge_87 : decode YX0_judge.2.1 87 = .ok (.invokevirtual 95, 3) := by decide +kernel
theorem dX0_judge_90 : decode YX0_judge.2.1 90 = .ok (.putfield 38, 3) := by decide +kernel
theorem dX0_judge_93 : decode YX0_judge.2.1 93 = .ok (.iload_n 3, 1) := by decide +kernel
theorem dX0_judge_94 : decode YX0_judge.2.1 94 = .ok (.ireturn, 1) := by decide +kernel
theorem dX0_readAct_0 : decode YX0_readAct.2.1 0 = .ok (.iload_n 3, 1) := by decide +kernel
theorem dX0_readAct_1 : decode YX0_readAct.2.1 1 = .ok (.tableswitch 145 5 9 #[54, 79, 79, 86, 35], 35) := by decide +kernel
theorem dX0_readAct_36 : decode YX0_readAct.2.1 36 = .ok (.aload_n 0, 1) := by decide +kernel
theorem dX0_readAct_37 : decode YX0_readAct.2.1 37 = .ok (.getfield 21, 3) := by decide +kernel
theorem dX0_readAct_40 : decode YX0_readAct.2.1 40 = .ok (.aload_n 0, 1) := by decide +kernel
theorem dX0_readAct_41 : decode YX0_readAct.2.1 41 = .ok (.getfield 41, 3) := by decide +kernel
theorem dX0_readAct_44 : decode YX0_readAct.2.1 44 = .ok (.aload_n 1, 1) := by decide +kernel
theorem dX0_readAct_45 : decode YX0_readAct.2.1 45 = .ok (.iconst 1, 1) := by decide +kernel
theorem dX0_readAct_46 : decode YX0_readAct.2.1 46 = .ok (.bipush 60, 2) := by decide +kernel
theorem dX0_readAct_48 : decode YX0_readAct.2.1 48 = .ok (.invokevirtual 79, 3) := by decide +kernel
theorem dX0_readAct_51 : decode YX0_readAct.2.1 51 = .ok (.iastore, 1) := by decide +kernel
theorem dX0_readAct_52 : decode YX0_readAct.2.1 52 = .ok (.goto 99, 3) := by decide +kernel
theorem dX0_readAct_55 : decode YX0_readAct.2.1 55 = .ok (.aload_n 1, 1) := by decide +kernel
theorem dX0_readAct_56 : decode YX0_readAct.2.1 56 = .ok (.invokevirtual 72, 3) := by decide +kernel
theorem dX0_readAct_59 : decode YX0_readAct.2.1 59 = .ok (.aload_n 0, 1) := by decide +kernel
theorem dX0_readAct_60 : decode YX0_readAct.2.1 60 = .ok (.getfield 18, 3) := by decide +kernel
theorem dX0_readAct_63 : decode YX0_readAct.2.1 63 = .ok (.aload_n 0, 1) := by decide +kernel
theorem dX0_readAct_64 : decode YX0_readAct.2.1 64 = .ok (.getfield 41, 3) := by decide +kernel
theorem dX0_readAct_67 : decode YX0_readAct.2.1 67 = .ok (.aload_n 1, 1) := by decide +kernel
theorem dX0_readAct_68 : decode YX0_readAct.2.1 68 = .ok (.aload_n 2, 1) := by decide +kernel
theorem dX0_readAct_69 : decode YX0_readAct.2.1 69 = .ok (.invokevirtual 83, 3) := by decide +kernel
theorem dX0_readAct_72 : decode YX0_readAct.2.1 72 = .ok (.iastore, 1) := by decide +kernel
theorem dX0_readAct_73 : decode YX0_readAct.2.1 73 = .ok (.aload_n 1, 1) := by decide +kernel
theorem dX0_readAct_74 : decode YX0_readAct.2.1 74 = .ok (.invokevirtual 72, 3) := by decide +kernel
theorem dX0_readAct_77 : decode YX0_readAct.2.1 77 = .ok (.goto 74, 3) := by decide +kernel
theorem dX0_readAct_80 : decode YX0_readAct.2.1 80 = .ok (.aload_n 1, 1) := by decide +kernel
theorem dX0_readAct_81 : decode YX0_readAct.2.1 81 = .ok (.invokevirtual 72, 3) := by decide +kernel
theorem dX0_readAct_84 : decode YX0_readAct.2.1 84 = .ok (.goto 67, 3) := by decide +kernel
theorem dX0_readAct_87 : decode YX0_readAct.2.1 87 = .ok (.aload_n 1, 1) := by decide +kernel
theorem dX0_readAct_88 : decode YX0_readAct.2.1 88 = .ok (.invokevirtual 72, 3) := by decide +kernel
theorem dX0_readAct_91 : decode YX0_readAct.2.1 91 = .ok (.aload_n 0, 1) := by decide +kernel
theorem dX0_readAct_92 : decode YX0_readAct.2.1 92 = .ok (.getfield 18, 3) := by decide +kernel
theorem dX0_readAct_95 : decode YX0_readAct.2.1 95 = .ok (.aload_n 0, 1) := by decide +kernel
theorem dX0_readAct_96 : decode YX0_readAct.2.1 96 = .ok (.getfield 41, 3) := by decide +kernel
theorem dX0_readAct_99 : decode YX0_readAct.2.1 99 = .ok (.aload_n 1, 1) := by decide +kernel
theorem dX0_readAct_100 : decode YX0_readAct.2.1 100 = .ok (.aload_n 2, 1) := by decide +kernel
theorem dX0_readAct_101 : decode YX0_readAct.2.1 101 = .ok (.invokevirtual 65, 3) := by decide +kernel
theorem dX0_readAct_104 : decode YX0_readAct.2.1 104 = .ok (.iastore, 1) := by decide +kernel
theorem dX0_readAct_105 : decode YX0_readAct.2.1 105 = .ok (.aload_n 0, 1) := by decide +kernel
theorem dX0_readAct_106 : decode YX0_readAct.2.1 106 = .ok (.getfield 18, 3) := by decide +kernel
theorem dX0_readAct_109 : decode YX0_readAct.2.1 109 = .ok (.aload_n 0, 1) := by decide +kernel
theorem dX0_readAct_110 : decode YX0_readAct.2.1 110 = .ok (.getfield 41, 3) := by decide +kernel
theorem dX0_readAct_113 : decode YX0_readAct.2.1 113 = .ok (.iaload, 1) := by decide +kernel
theorem dX0_readAct_114 : decode YX0_readAct.2.1 114 = .ok (.iload 4, 2) := by decide +kernel
theorem dX0_readAct_116 : decode YX0_readAct.2.1 116 = .ok (.if_icmp .ne 8, 3) := by decide +kernel
theorem dX0_readAct_119 : decode YX0_readAct.2.1 119 = .ok (.aload_n 1, 1) := by decide +kernel
theorem dX0_readAct_120 : decode YX0_readAct.2.1 120 = .ok (.iconst 3, 1) := by decide +kernel
theorem dX0_readAct_121 : decode YX0_readAct.2.1 121 = .ok (.invokevirtual 69, 3) := by decide +kernel
theorem dX0_readAct_124 : decode YX0_readAct.2.1 124 = .ok (.aload_n 1, 1) := by decide +kernel
theorem dX0_readAct_125 : decode YX0_readAct.2.1 125 = .ok (.invokevirtual 72, 3) := by decide +kernel
theorem dX0_readAct_128 : decode YX0_readAct.2.1 128 = .ok (.aload_n 0, 1) := by decide +kernel
theorem dX0_readAct_129 : decode YX0_readAct.2.1 129 = .ok (.getfield 21, 3) := by decide +kernel
theorem dX0_readAct_132 : decode YX0_readAct.2.1 132 = .ok (.aload_n 0, 1) := by decide +kernel
theorem dX0_readAct_133 : decode YX0_readAct.2.1 133 = .ok (.getfield 41, 3) := by decide +kernel
theorem dX0_readAct_136 : decode YX0_readAct.2.1 136 = .ok (.aload_n 1, 1) := by decide +kernel
theorem dX0_readAct_137 : decode YX0_readAct.2.1 137 = .ok (.iconst 1, 1) := by decide +kernel
theorem dX0_readAct_138 : decode YX0_readAct.2.1 138 = .ok (.iconst 5, 1) := by decide +kernel
theorem dX0_readAct_139 : decode YX0_readAct.2.1 139 = .ok (.invokevirtual 79, 3) := by decide +kernel
theorem dX0_readAct_142 : decode YX0_readAct.2.1 142 = .ok (.iastore, 1) := by decide +kernel
theorem dX0_readAct_143 : decode YX0_readAct.2.1 143 = .ok (.goto 8, 3) := by decide +kernel
theorem dX0_readAct_146 : decode YX0_readAct.2.1 146 = .ok (.aload_n 1, 1) := by decide +kernel
theorem dX0_readAct_147 : decode YX0_readAct.2.1 147 = .ok (.iconst 1, 1) := by decide +kernel
theorem dX0_readAct_148 : decode YX0_readAct.2.1 148 = .ok (.invokevirtual 69, 3) := by decide +kernel
theorem dX0_readAct_151 : decode YX0_readAct.2.1 151 = .ok (.return_, 1) := by decide +kernel
theorem dX0_readFrom_0 : decode YX0_readFrom.2.1 0 = .ok (.aload_n 0, 1) := by decide +kernel
theorem dX0_readFrom_1 : decode YX0_readFrom.2.1 1 = .ok (.iconst 0, 1) := by decide +kernel
theorem dX0_readFrom_2 : decode YX0_readFrom.2.1 2 = .ok (.putfield 41, 3) := by decide +kernel
theorem dX0_readFrom_5 : decode YX0_readFrom.2.1 5 = .ok (.iconst 0, 1) := by decide +kernel
theorem dX0_readFrom_6 : decode YX0_readFrom.2.1 6 = .ok (.istore_n 3, 1) := by decide +kernel
theorem dX0_readFrom_7 : decode YX0_readFrom.2.1 7 = .ok (.iload_n 3, 1) := by decide +kernel
theorem dX0_readFrom_8 : decode YX0_readFrom.2.1 8 = .ok (.bipush 40, 2) := by decide +kernel
theorem dX0_readFrom_10 : decode YX0_readFrom.2.1 10 = .ok (.if_icmp .gt 48, 3) := by decide +kernel
theorem dX0_readFrom_13 : decode YX0_readFrom.2.1 13 = .ok (.aload_n 1, 1) := by decide +kernel
theorem dX0_readFrom_14 : decode YX0_readFrom.2.1 14 = .ok (.invokevirtual 44, 3) := by decide +kernel
theorem dX0_readFrom_17 : decode YX0_readFrom.2.1 17 = .ok (.ifCond .eq 41, 3) := by decide +kernel
theorem dX0_readFrom_20 : decode YX0_readFrom.2.1 20 = .ok (.aload_n 1, 1) := by decide +kernel
theorem dX0_readFrom_21 : decode YX0_readFrom.2.1 21 = .ok (.invokevirtual 50, 3) := by decide +kernel
theorem dX0_readFrom_24 : decode YX0_readFrom.2.1 24 = .ok (.ifCond .eq 6, 3) := by decide +kernel
theorem dX0_readFrom_27 : decode YX0_readFrom.2.1 27 = .ok (.goto 31, 3) := by decide +kernel
theorem dX0_readFrom_30 : decode YX0_readFrom.2.1 30 = .ok (.aload_n 0, 1) := by decide +kernel
theorem dX0_readFrom_31 : decode YX0_readFrom.2.1 31 = .ok (.aload_n 1, 1) := by decide +kernel
theorem dX0_readFrom_32 : decode YX0_readFrom.2.1 32 = .ok (.aload_n 2, 1) := by decide +kernel
theorem dX0_readFrom_33 : decode YX0_readFrom.2.1 33 = .ok (.invokevirtual 53, 3) := by decide +kernel
theorem dX0_readFrom_36 : decode YX0_readFrom.2.1 36 = .ok (.aload_n 1, 1) := by decide +kernel
theorem dX0_readFrom_37 : decode YX0_readFrom.2.1 37 = .ok (.bipush 59, 2) := by decide +kernel
theorem dX0_readFrom_39 : decode YX0_readFrom.2.1 39 = .ok (.invokevirtual 57, 3) := by decide +kernel
theorem dX0_readFrom_42 : decode YX0_readFrom.2.1 42 = .ok (.aload_n 0, 1) := by decide +kernel
theorem dX0_readFrom_43 : decode YX0_readFrom.2.1 43 = .ok (.dup, 1) := by decide +kernel
theorem dX0_readFrom_44 : decode YX0_readFrom.2.1 44 = .ok (.getfield 41, 3) := by decide +kernel
theorem dX0_readFrom_47 : decode YX0_readFrom.2.1 47 = .ok (.iconst 1, 1) := by decide +kernel
theorem dX0_readFrom_48 : decode YX0_readFrom.2.1 48 = .ok (.iadd, 1) := by decide +kernel
theorem dX0_readFrom_49 : decode YX0_readFrom.2.1 49 = .ok (.putfield 41, 3) := by decide +kernel
theorem dX0_readFrom_52 : decode YX0_readFrom.2.1 52 = .ok (.iinc 3 1, 3) := by decide +kernel
theorem dX0_readFrom_55 : decode YX0_readFrom.2.1 55 = .ok (.goto (-48), 3) := by decide +kernel
theorem dX0_readFrom_58 : decode YX0_readFrom.2.1 58 = .ok (.return_, 1) := by decide +kernel
theorem dX0_readLine_0 : decode YX0_readLine.2.1 0 = .ok (.iconst (-1), 1) := by decide +kernel
theorem dX0_readLine_1 : decode YX0_readLine.2.1 1 = .ok (.istore_n 3, 1) := by decide +kernel
theorem dX0_readLine_2 : decode YX0_readLine.2.1 2 = .ok (.aload_n 1, 1) := by decide +kernel
theorem dX0_readLine_3 : decode YX0_readLine.2.1 3 = .ok (.invokevirtual 61, 3) := by decide +kernel
theorem dX0_readLine_6 : decode YX0_readLine.2.1 6 = .ok (.istore 4, 2) := by decide +kernel
theorem dX0_readLine_8 : decode YX0_readLine.2.1 8 = .ok (.iload 4, 2) := by decide +kernel
theorem dX0_readLine_10 : decode YX0_readLine.2.1 10 = .ok (.bipush 9, 2) := by decide +kernel
theorem dX0_readLine_12 : decode YX0_readLine.2.1 12 = .ok (.if_icmp .eq 9, 3) := by decide +kernel
theorem dX0_readLine_15 : decode YX0_readLine.2.1 15 = .ok (.aload_n 1, 1) := by decide +kernel
theorem dX0_readLine_16 : decode YX0_readLine.2.1 16 = .ok (.aload_n 2, 1) := by decide +kernel
theorem dX0_readLine_17 : decode YX0_readLine.2.1 17 = .ok (.invokevirtual 65, 3) := by decide +kernel
theorem dX0_readLine_20 : decode YX0_readLine.2.1 20 = .ok (.istore_n 3, 1) := by decide +kernel
theorem dX0_readLine_21 : decode YX0_readLine.2.1 21 = .ok (.aload_n 0, 1) := by decide +kernel
theorem dX0_readLine_22 : decode YX0_readLine.2.1 22 = .ok (.getfield 41, 3) := by decide +kernel
theorem dX0_readLine_25 : decode YX0_readLine.2.1 25 = .ok (.bipush 40, 2) := by decide +kernel
theorem dX0_readLine_27 : decode YX0_readLine.2.1 27 = .ok (.if_icmp .lt 9, 3) := by decide +kernel
theorem dX0_readLine_30 : decode YX0_readLine.2.1 30 = .ok (.aload_n 1, 1) := by decide +kernel
theorem dX0_readLine_31 : decode YX0_readLine.2.1 31 = .ok (.iconst 4, 1) := by decide +kernel
theorem dX0_readLine_32 : decode YX0_readLine.2.1 32 = .ok (.invokevirtual 69, 3) := by decide +kernel
theorem dX0_readLine_35 : decode YX0_readLine.2.1 35 = .ok (.return_, 1) := by decide +kernel
theorem dX0_readLine_36 : decode YX0_readLine.2.1 36 = .ok (.aload_n 1, 1) := by decide +kernel
theorem dX0_readLine_37 : decode YX0_readLine.2.1 37 = .ok (.invokevirtual 72, 3) := by decide +kernel
theorem dX0_readLine_40 : decode YX0_readLine.2.1 40 = .ok (.iload 4, 2) := by decide +kernel
theorem dX0_readLine_42 : decode YX0_readLine.2.1 42 = .ok (.bipush 9, 2) := by decide +kernel
theorem dX0_readLine_44 : decode YX0_readLine.2.1 44 = .ok (.if_icmp .eq 9, 3) := by decide +kernel
theorem dX0_readLine_47 : decode YX0_readLine.2.1 47 = .ok (.aload_n 1, 1) := by decide +kernel
theorem dX0_readLine_48 : decode YX0_readLine.2.1 48 = .ok (.invokevirtual 61, 3) := by decide +kernel
theorem dX0_readLine_51 : decode YX0_readLine.2.1 51 = .ok (.istore 4, 2) := by decide +kernel
theorem dX0_readLine_53 : decode YX0_readLine.2.1 53 = .ok (.aload_n 0, 1) := by decide +kernel
theorem dX0_readLine_54 : decode YX0_readLine.2.1 54 = .ok (.getfield 11, 3) := by decide +kernel
theorem dX0_readLine_57 : decode YX0_readLine.2.1 57 = .ok (.aload_n 0, 1) := by decide +kernel
theorem dX0_readLine_58 : decode YX0_readLine.2.1 58 = .ok (.getfield 41, 3) := by decide +kernel
theorem dX0_readLine_61 : decode YX0_readLine.2.1 61 = .ok (.iload 4, 2) := by decide +kernel
theorem dX0_readLine_63 : decode YX0_readLine.2.1 63 = .ok (.iastore, 1) := by decide +kernel
theorem dX0_readLine_64 : decode YX0_readLine.2.1 64 = .ok (.aload_n 0, 1) := by decide +kernel
theorem dX0_readLine_65 : decode YX0_readLine.2.1 65 = .ok (.getfield 15, 3) := by decide +kernel
theorem dX0_readLine_68 : decode YX0_readLine.2.1 68 = .ok (.aload_n 0, 1) := by decide +kernel
theorem dX0_readLine_69 : decode YX0_readLine.2.1 69 = .ok (.getfield 41, 3) := by decide +kernel
theorem dX0_readLine_72 : decode YX0_readLine.2.1 72 = .ok (.iload_n 3, 1) := by decide +kernel
theorem dX0_readLine_73 : decode YX0_readLine.2.1 73 = .ok (.iastore, 1) := by decide +kernel
theorem dX0_readLine_74 : decode YX0_readLine.2.1 74 = .ok (.aload_n 0, 1) := by decide +kernel
theorem dX0_readLine_75 : decode YX0_readLine.2.1 75 = .ok (.aload_n 1, 1) := by decide +kernel
theorem dX0_readLine_76 : decode YX0_readLine.2.1 76 = .ok (.aload_n 2, 1) := by decide +kernel
theorem dX0_readLine_77 : decode YX0_readLine.2.1 77 = .ok (.iload 4, 2) := by decide +kernel
theorem dX0_readLine_79 : decode YX0_readLine.2.1 79 = .ok (.iload_n 3, 1) := by decide +kernel
theorem dX0_readLine_80 : decode YX0_readLine.2.1 80 = .ok (.invokevirtual 75, 3) := by decide +kernel
theorem dX0_readLine_83 : decode YX0_readLine.2.1 83 = .ok (.return_, 1) := by decide +kernel
theorem dX0_shifted_0 : decode YX0_shifted.2.1 0 = .ok (.iload_n 0, 1) := by decide +kernel
theorem dX0_shifted_1 : decode YX0_shifted.2.1 1 = .ok (.ifCond .ne 7, 3) := by decide +kernel
theorem dX0_shifted_4 : decode YX0_shifted.2.1 4 = .ok (.iconst 0, 1) := by decide +kernel
theorem dX0_shifted_5 : decode YX0_shifted.2.1 5 = .ok (.goto 6, 3) := by decide +kernel
theorem dX0_shifted_8 : decode YX0_shifted.2.1 8 = .ok (.iload_n 0, 1) := by decide +kernel
theorem dX0_shifted_9 : decode YX0_shifted.2.1 9 = .ok (.iload_n 1, 1) := by decide +kernel
theorem dX0_shifted_10 : decode YX0_shifted.2.1 10 = .ok (.iadd, 1) := by decide +kernel
theorem dX0_shifted_11 : decode YX0_shifted.2.1 11 = .ok (.ireturn, 1) := by decide +kernel
theorem dX0_toldOf_0 : decode YX0_toldOf.2.1 0 = .ok (.aload_n 0, 1) := by decide +kernel
theorem dX0_toldOf_1 : decode YX0_toldOf.2.1 1 = .ok (.getfield 28, 3) := by decide +kernel
theorem dX0_toldOf_4 : decode YX0_toldOf.2.1 4 = .ok (.ifCond .ne 5, 3) := by decide +kernel
theorem dX0_toldOf_7 : decode YX0_toldOf.2.1 7 = .ok (.iconst (-1), 1) := by decide +kernel
theorem dX0_toldOf_8 : decode YX0_toldOf.2.1 8 = .ok (.ireturn, 1) := by decide +kernel
theorem dX0_toldOf_9 : decode YX0_toldOf.2.1 9 = .ok (.iload_n 1, 1) := by decide +kernel
theorem dX0_toldOf_10 : decode YX0_toldOf.2.1 10 = .ok (.tableswitch 50 0 3 #[30, 35, 40, 45], 30) := by decide +kernel
theorem dX0_toldOf_40 : decode YX0_toldOf.2.1 40 = .ok (.aload_n 0, 1) := by decide +kernel
theorem dX0_toldOf_41 : decode YX0_toldOf.2.1 41 = .ok (.getfield 32, 3) := by decide +kernel
theorem dX0_toldOf_44 : decode YX0_toldOf.2.1 44 = .ok (.ireturn, 1) := by decide +kernel
theorem dX0_toldOf_45 : decode YX0_toldOf.2.1 45 = .ok (.aload_n 0, 1) := by decide +kernel
theorem dX0_toldOf_46 : decode YX0_toldOf.2.1 46 = .ok (.getfield 24, 3) := by decide +kernel
theorem dX0_toldOf_49 : decode YX0_toldOf.2.1 49 = .ok (.ireturn, 1) := by decide +kernel
theorem dX0_toldOf_50 : decode YX0_toldOf.2.1 50 = .ok (.aload_n 0, 1) := by decide +kernel
theorem dX0_toldOf_51 : decode YX0_toldOf.2.1 51 = .ok (.getfield 35, 3) := by decide +kernel
theorem dX0_toldOf_54 : decode YX0_toldOf.2.1 54 = .ok (.ireturn, 1) := by decide +kernel
theorem dX0_toldOf_55 : decode YX0_toldOf.2.1 55 = .ok (.aload_n 0, 1) := by decide +kernel
theorem dX0_toldOf_56 : decode YX0_toldOf.2.1 56 = .ok (.getfield 38, 3) := by decide +kernel
theorem dX0_toldOf_59 : decode YX0_toldOf.2.1 59 = .ok (.ireturn, 1) := by decide +kernel
theorem dX0_toldOf_60 : decode YX0_toldOf.2.1 60 = .ok (.iconst (-1), 1) := by decide +kernel
theorem dX0_toldOf_61 : decode YX0_toldOf.2.1 61 = .ok (.ireturn, 1) := by decide +kernel
theorem dX10_addNumber_0 : decode YX10_addNumber.2.1 0 = .ok (.bipush 24, 2) := by decide +kernel
theorem dX10_addNumber_2 : decode YX10_addNumber.2.1 2 = .ok (.istore_n 2, 1) := by decide +kernel
theorem dX10_addNumber_3 : decode YX10_addNumber.2.1 3 = .ok (.iload_n 2, 1) := by decide +kernel
theorem dX10_addNumber_4 : decode YX10_addNumber.2.1 4 = .ok (.ifCond .lt 45, 3) := by decide +kernel
theorem dX10_addNumber_7 : decode YX10_addNumber.2.1 7 = .ok (.aload_n 0, 1) := by decide +kernel
theorem dX10_addNumber_8 : decode YX10_addNumber.2.1 8 = .ok (.getfield 15, 3) := by decide +kernel
theorem dX10_addNumber_11 : decode YX10_addNumber.2.1 11 = .ok (.sipush 940, 3) := by decide +kernel
theorem dX10_addNumber_14 : decode YX10_addNumber.2.1 14 = .ok (.if_icmp .ge 29, 3) := by decide +kernel
theorem dX10_addNumber_17 : decode YX10_addNumber.2.1 17 = .ok (.aload_n 0, 1) := by decide +kernel
theorem dX10_addNumber_18 : decode YX10_addNumber.2.1 18 = .ok (.getfield 11, 3) := by decide +kernel
theorem dX10_addNumber_21 : decode YX10_addNumber.2.1 21 = .ok (.aload_n 0, 1) := by decide +kernel
theorem dX10_addNumber_22 : decode YX10_addNumber.2.1 22 = .ok (.getfield 15, 3) := by decide +kernel
theorem dX10_addNumber_25 : decode YX10_addNumber.2.1 25 = .ok (.iload_n 1, 1) := by decide +kernel
theorem dX10_addNumber_26 : decode YX10_addNumber.2.1 26 = .ok (.iload_n 2, 1) := by decide +kernel
theorem dX10_addNumber_27 : decode YX10_addNumber.2.1 27 = .ok (.iushr, 1) := by decide +kernel
theorem dX10_addNumber_28 : decode YX10_addNumber.2.1 28 = .ok (.sipush 255, 3) := by decide +kernel
theorem dX10_addNumber_31 : decode YX10_addNumber.2.1 31 = .ok (.iand, 1) := by decide +kernel
theorem dX10_addNumber_32 : decode YX10_addNumber.2.1 32 = .ok (.iastore, 1) := by decide +kernel
theorem dX10_addNumber_33 : decode YX10_addNumber.2.1 33 = .ok (.aload_n 0, 1) := by decide +kernel
theorem dX10_addNumber_34 : decode YX10_addNumber.2.1 34 = .ok (.dup, 1) := by decide +kernel
theorem dX10_addNumber_35 : decode YX10_addNumber.2.1 35 = .ok (.getfield 15, 3) := by decide +kernel
theorem dX10_addNumber_38 : decode YX10_addNumber.2.1 38 = .ok (.iconst 1, 1) := by decide +kernel
theorem dX10_addNumber_39 : decode YX10_addNumber.2.1 39 = .ok (.iadd, 1) := by decide +kernel
theorem dX10_addNumber_40 : decode YX10_addNumber.2.1 40 = .ok (.putfield 15, 3) := by decide +kernel
theorem dX10_addNumber_43 : decode YX10_addNumber.2.1 43 = .ok (.iinc 2 (-8), 3) := by decide +kernel
theorem dX10_addNumber_46 : decode YX10_addNumber.2.1 46 = .ok (.goto (-43), 3) := by decide +kernel
theorem dX10_addNumber_49 : decode YX10_addNumber.2.1 49 = .ok (.return_, 1) := by decide +kernel
theorem dX10_byteOf_0 : decode YX10_byteOf.2.1 0 = .ok (.iload_n 1, 1) := by decide +kernel
theorem dX10_byteOf_1 : decode YX10_byteOf.2.1 1 = .ok (.ifCond .lt 20, 3) := by decide +kernel
theorem dX10_byteOf_4 : decode YX10_byteOf.2.1 4 = .ok (.iload_n 1, 1) := by decide +kernel
theorem dX10_byteOf_5 : decode YX10_byteOf.2.1 5 = .ok (.aload_n 0, 1) := by decide +kernel
theorem dX10_byteOf_6 : decode YX10_byteOf.2.1 6 = .ok (.getfield 15, 3) := by decide +kernel
theorem dX10_byteOf_9 : decode YX10_byteOf.2.1 9 = .ok (.if_icmp .ge 12, 3) := by decide +kernel
theorem dX10_byteOf_12 : decode YX10_byteOf.2.1 12 = .ok (.aload_n 0, 1) := by decide +kernel
theorem dX10_byteOf_13 : decode YX10_byteOf.2.1 13 = .ok (.getfield 11, 3) := by decide +kernel
theorem dX10_byteOf_16 : decode YX10_byteOf.2.1 16 = .ok (.iload_n 1, 1) := by decide +kernel
theorem dX10_byteOf_17 : decode YX10_byteOf.2.1 17 = .ok (.iaload, 1) := by decide +kernel
theorem dX10_byteOf_18 : decode YX10_byteOf.2.1 18 = .ok (.goto 4, 3) := by decide +kernel
theorem dX10_byteOf_21 : decode YX10_byteOf.2.1 21 = .ok (.iconst (-1), 1) := by decide +kernel
theorem dX10_byteOf_22 : decode YX10_byteOf.2.1 22 = .ok (.ireturn, 1) := by decide +kernel
theorem dX10_clear_0 : decode YX10_clear.2.1 0 = .ok (.aload_n 0, 1) := by decide +kernel
theorem dX10_clear_1 : decode YX10_clear.2.1 1 = .ok (.iconst 0, 1) := by decide +kernel
theorem dX10_clear_2 : decode YX10_clear.2.1 2 = .ok (.putfield 15, 3) := by decide +kernel
theorem dX10_clear_5 : decode YX10_clear.2.1 5 = .ok (.return_, 1) := by decide +kernel
theorem dX10_hasRoom_0 : decode YX10_hasRoom.2.1 0 = .ok (.aload_n 0, 1) := by decide +kernel
theorem dX10_hasRoom_1 : decode YX10_hasRoom.2.1 1 = .ok (.getfield 15, 3) := by decide +kernel
theorem dX10_hasRoom_4 : decode YX10_hasRoom.2.1 4 = .ok (.iload_n 1, 1) := by decide +kernel
theorem dX10_hasRoom_5 : decode YX10_hasRoom.2.1 5 = .ok (.iadd, 1) := by decide +kernel
theorem dX10_hasRoom_6 : decode YX10_hasRoom.2.1 6 = .ok (.sipush 940, 3) := by decide +kernel
theorem dX10_hasRoom_9 : decode YX10_hasRoom.2.1 9 = .ok (.if_icmp .gt 7, 3) := by decide +kernel
theorem dX10_hasRoom_12 : decode YX10_hasRoom.2.1 12 = .ok (.iconst 1, 1) := by decide +kernel
theorem dX10_hasRoom_13 : decode YX10_hasRoom.2.1 13 = .ok (.goto 4, 3) := by decide +kernel
theorem dX10_hasRoom_16 : decode YX10_hasRoom.2.1 16 = .ok (.iconst 0, 1) := by decide +kernel
theorem dX10_hasRoom_17 : decode YX10_hasRoom.2.1 17 = .ok (.ireturn, 1) := by decide +kernel
theorem dX10_length_0 : decode YX10_length.2.1 0 = .ok (.aload_n 0, 1) := by decide +kernel
theorem dX10_length_1 : decode YX10_length.2.1 1 = .ok (.getfield 15, 3) := by decide +kernel
theorem dX10_length_4 : decode YX10_length.2.1 4 = .ok (.ireturn, 1) := by decide +kernel
theorem dX10_shorten_0 : decode YX10_shorten.2.1 0 = .ok (.iload_n 1, 1) := by decide +kernel
theorem dX10_shorten_1 : decode YX10_shorten.2.1 1 = .ok (.ifCond .lt 11, 3) := by decide +kernel
theorem dX10_shorten_4 : decode YX10_shorten.2.1 4 = .ok (.iload_n 1, 1) := by decide +kernel
theorem dX10_shorten_5 : decode YX10_shorten.2.1 5 = .ok (.aload_n 0, 1) := by decide +kernel
theorem dX10_shorten_6 : decode YX10_shorten.2.1 6 = .ok (.getfield 15, 3) := by decide +kernel
theorem dX10_shorten_9 : decode YX10_shorten.2.1 9 = .ok (.if_icmp .le 5, 3) := by decide +kernel
theorem dX10_shorten_12 : decode YX10_shorten.2.1 12 = .ok (.iconst 0, 1) := by decide +kernel
theorem dX10_shorten_13 : decode YX10_shorten.2.1 13 = .ok (.ireturn, 1) := by decide +kernel
theorem dX10_shorten_14 : decode YX10_shorten.2.1 14 = .ok (.aload_n 0, 1) := by decide +kernel
theorem dX10_shorten_15 : decode YX10_shorten.2.1 15 = .ok (.iload_n 1, 1) := by decide +kernel
theorem dX10_shorten_16 : decode YX10_shorten.2.1 16 = .ok (.putfield 15, 3) := by decide +kernel
theorem dX10_shorten_19 : decode YX10_shorten.2.1 19 = .ok (.iconst 1, 1) := by decide +kernel
theorem dX10_shorten_20 : decode YX10_shorten.2.1 20 = .ok (.ireturn, 1) := by decide +kernel
theorem dX11_ask_0 : decode YX11_ask.2.1 0 = .ok (.aload_n 0, 1) := by decide +kernel
theorem dX11_ask_1 : decode YX11_ask.2.1 1 = .ok (.getfield 110, 3) := by decide +kernel
theorem dX11_ask_4 : decode YX11_ask.2.1 4 = .ok (.ireturn, 1) := by decide +kernel
theorem dX11_bar_0 : decode YX11_bar.2.1 0 = .ok (.aload_n 0, 1) := by decide +kernel
theorem dX11_bar_1 : decode YX11_bar.2.1 1 = .ok (.getfield 28, 3) := by decide +kernel
theorem dX11_bar_4 : decode YX11_bar.2.1 4 = .ok (.iload_n 1, 1) := by decide +kernel
theorem dX11_bar_5 : decode YX11_bar.2.1 5 = .ok (.invokevirtual 192, 3) := by decide +kernel
theorem dX11_bar_8 : decode YX11_bar.2.1 8 = .ok (.ifCond .eq 31, 3) := by decide +kernel
theorem dX11_bar_11 : decode YX11_bar.2.1 11 = .ok (.aload_n 0, 1) := by decide +kernel
theorem dX11_bar_12 : decode YX11_bar.2.1 12 = .ok (.getfield 28, 3) := by decide +kernel
theorem dX11_bar_15 : decode YX11_bar.2.1 15 = .ok (.iload_n 2, 1) := by decide +kernel
theorem dX11_bar_16 : decode YX11_bar.2.1 16 = .ok (.invokevirtual 192, 3) := by decide +kernel
theorem dX11_bar_19 : decode YX11_bar.2.1 19 = .ok (.ifCond .eq 20, 3) := by decide +kernel
theorem dX11_bar_22 : decode YX11_bar.2.1 22 = .ok (.iload_n 1, 1) := by decide +kernel
theorem dX11_bar_23 : decode YX11_bar.2.1 23 = .ok (.iload_n 2, 1) := by decide +kernel
theorem dX11_bar_24 : decode YX11_bar.2.1 24 = .ok (.if_icmp .eq 15, 3) := by decide +kernel
theorem dX11_bar_27 : decode YX11_bar.2.1 27 = .ok (.aload_n 0, 1) := by decide +kernel
theorem dX11_bar_28 : decode YX11_bar.2.1 28 = .ok (.getfield 28, 3) := by decide +kernel
theorem dX11_bar_31 : decode YX11_bar.2.1 31 = .ok (.iload_n 1, 1) := by decide +kernel
theorem dX11_bar_32 : decode YX11_bar.2.1 32 = .ok (.iload_n 2, 1) := by decide +kernel
theorem dX11_bar_33 : decode YX11_bar.2.1 33 = .ok (.invokevirtual 288, 3) := by decide +kernel
theorem dX11_bar_36 : decode YX11_bar.2.1 36 = .ok (.ifCond .eq 5, 3) := by decide +kernel
theorem dX11_bar_39 : decode YX11_bar.2.1 39 = .ok (.iconst (-1), 1) := by decide +kernel
theorem dX11_bar_40 : decode YX11_bar.2.1 40 = .ok (.ireturn, 1) := by decide +kernel
theorem dX11_bar_41 : decode YX11_bar.2.1 41 = .ok (.aload_n 0, 1) := by decide +kernel
theorem dX11_bar_42 : decode YX11_bar.2.1 42 = .ok (.aload_n 0, 1) := by decide +kernel
theorem dX11_bar_43 : decode YX11_bar.2.1 43 = .ok (.getfield 28, 3) := by decide +kernel
theorem dX11_bar_46 : decode YX11_bar.2.1 46 = .ok (.iload_n 1, 1) := by decide +kernel
theorem dX11_bar_47 : decode YX11_bar.2.1 47 = .ok (.iload_n 2, 1) := by decide +kernel
theorem dX11_bar_48 : decode YX11_bar.2.1 48 = .ok (.invokevirtual 292, 3) := by decide +kernel
theorem dX11_bar_51 : decode YX11_bar.2.1 51 = .ok (.putfield 107, 3) := by decide +kernel
theorem dX11_bar_54 : decode YX11_bar.2.1 54 = .ok (.aload_n 0, 1) := by decide +kernel
theorem dX11_bar_55 : decode YX11_bar.2.1 55 = .ok (.getfield 107, 3) := by decide +kernel
theorem dX11_bar_58 : decode YX11_bar.2.1 58 = .ok (.invokestatic 222, 3) := by decide +kernel
theorem dX11_bar_61 : decode YX11_bar.2.1 61 = .ok (.ireturn, 1) := by decide +kernel
theorem dX11_barred_0 : decode YX11_barred.2.1 0 = .ok (.aload_n 0, 1) := by decide +kernel
theorem dX11_barred_1 : decode YX11_barred.2.1 1 = .ok (.getfield 107, 3) := by decide +kernel
theorem dX11_barred_4 : decode YX11_barred.2.1 4 = .ok (.ireturn, 1) := by decide +kernel
theorem dX11_bestQuestion_0 : decode YX11_bestQuestion.2.1 0 = .ok (.iconst (-1), 1) := by decide +kernel
theorem dX11_bestQuestion_1 : decode YX11_bestQuestion.2.1 1 = .ok (.istore_n 2, 1) := by decide +kernel
theorem dX11_bestQuestion_2 : decode YX11_bestQuestion.2.1 2 = .ok (.bipush 7, 2) := by decide +kernel
theorem dX11_bestQuestion_4 : decode YX11_bestQuestion.2.1 4 = .ok (.istore_n 3, 1) := by decide +kernel
theorem dX11_bestQuestion_5 : decode YX11_bestQuestion.2.1 5 = .ok (.iconst 0, 1) := by decide +kernel
theorem dX11_bestQuestion_6 : decode YX11_bestQuestion.2.1 6 = .ok (.istore 4, 2) := by decide +kernel
theorem dX11_bestQuestion_8 : decode YX11_bestQuestion.2.1 8 = .ok (.iload 4, 2) := by decide +kernel
theorem dX11_bestQuestion_10 : decode YX11_bestQuestion.2.1 10 = .ok (.bipush 6, 2) := by decide +kernel
theorem dX11_bestQuestion_12 : decode YX11_bestQuestion.2.1 12 = .ok (.if_icmp .ge 63, 3) := by decide +kernel
theorem dX11_bestQuestion_15 : decode YX11_bestQuestion.2.1 15 = .ok (.iconst 0, 1) := by decide +kernel
theorem dX11_bestQuestion_16 : decode YX11_bestQuestion.2.1 16 = .ok (.istore 5, 2) := by decide +kernel
theorem dX11_bestQuestion_18 : decode YX11_bestQuestion.2.1 18 = .ok (.iconst 0, 1) := by decide +kernel
theorem dX11_bestQuestion_19 : decode YX11_bestQuestion.2.1 19 = .ok (.istore 6, 2) := by decide +kernel
theorem dX11_bestQuestion_21 : decode YX11_bestQuestion.2.1 21 = .ok (.iload 6, 2) := by decide +kernel
theorem dX11_bestQuestion_23 : decode YX11_bestQuestion.2.1 23 = .ok (.bipush 8, 2) := by decide +kernel
theorem dX11_bestQuestion_25 : decode YX11_bestQuestion.2.1 25 = .ok (.if_icmp .ge 32, 3) := by decide +kernel
theorem dX11_bestQuestion_28 : decode YX11_bestQuestion.2.1 28 = .ok (.iload 5, 2) := by decide +kernel
theorem dX11_bestQuestion_30 : decode YX11_bestQuestion.2.1 30 = .ok (.iload_n 1, 1) := by decide +kernel
theorem dX11_bestQuestion_31 : decode YX11_bestQuestion.2.1 31 = .ok (.aload_n 0, 1) := by decide +kernel
theorem dX11_bestQuestion_32 : decode YX11_bestQuestion.2.1 32 = .ok (.getfield 38, 3) := by decide +kernel
theorem dX11_bestQuestion_35 : decode YX11_bestQuestion.2.1 35 = .ok (.iload 6, 2) := by decide +kernel
theorem dX11_bestQuestion_37 : decode YX11_bestQuestion.2.1 37 = .ok (.iload 4, 2) := by decide +kernel
theorem dX11_bestQuestion_39 : decode YX11_bestQuestion.2.1 39 = .ok (.invokevirtual 198, 3) := by decide +kernel
theorem dX11_bestQuestion_42 : decode YX11_bestQuestion.2.1 42 = .ok (.iand, 1) := by decide +kernel
theorem dX11_bestQuestion_43 : decode YX11_bestQuestion.2.1 43 = .ok (.invokestatic 222, 3) := by decide +kernel
theorem dX11_bestQuestion_46 : decode YX11_bestQuestion.2.1 46 = .ok (.invokestatic 407, 3) := by decide +kernel
theorem dX11_bestQuestion_49 : decode YX11_bestQuestion.2.1 49 = .ok (.istore 5, 2) := by decide +kernel
theorem dX11_bestQuestion_51 : decode YX11_bestQuestion.2.1 51 = .ok (.iinc 6 1, 3) := by decide +kernel
theorem dX11_bestQuestion_54 : decode YX11_bestQuestion.2.1 54 = .ok (.goto (-33), 3) := by decide +kernel
theorem dX11_bestQuestion_57 : decode YX11_bestQuestion.2.1 57 = .ok (.iload 5, 2) := by decide +kernel
theorem dX11_bestQuestion_59 : decode YX11_bestQuestion.2.1 59 = .ok (.iload_n 3, 1) := by decide +kernel
theorem dX11_bestQuestion_60 : decode YX11_bestQuestion.2.1 60 = .ok (.if_icmp .ge 9, 3) := by decide +kernel
theorem dX11_bestQuestion_63 : decode YX11_bestQuestion.2.1 63 = .ok (.iload 5, 2) := by decide +kernel
theorem dX11_bestQuestion_65 : decode YX11_bestQuestion.2.1 65 = .ok (.istore_n 3, 1) := by decide +kernel
theorem dX11_bestQuestion_66 : decode YX11_bestQuestion.2.1 66 = .ok (.iload 4, 2) := by decide +kernel
theorem dX11_bestQuestion_68 : decode YX11_bestQuestion.2.1 68 = .ok (.istore_n 2, 1) := by decide +kernel
theorem dX11_bestQuestion_69 : decode YX11_bestQuestion.2.1 69 = .ok (.iinc 4 1, 3) := by decide +kernel
theorem dX11_bestQuestion_72 : decode YX11_bestQuestion.2.1 72 = .ok (.goto (-64), 3) := by decide +kernel
theorem dX11_bestQuestion_75 : decode YX11_bestQuestion.2.1 75 = .ok (.iload_n 2, 1) := by decide +kernel
theorem dX11_bestQuestion_76 : decode YX11_bestQuestion.2.1 76 = .ok (.ireturn, 1) := by decide +kernel
theorem dX11_byteAt_0 : decode YX11_byteAt.2.1 0 = .ok (.aload_n 0, 1) := by decide +kernel
theorem dX11_byteAt_1 : decode YX11_byteAt.2.1 1 = .ok (.getfield 92, 3) := by decide +kernel
theorem dX11_byteAt_4 : decode YX11_byteAt.2.1 4 = .ok (.iload_n 1, 1) := by decide +kernel
theorem dX11_byteAt_5 : decode YX11_byteAt.2.1 5 = .ok (.invokevirtual 343, 3) := by decide +kernel
theorem dX11_byteAt_8 : decode YX11_byteAt.2.1 8 = .ok (.ireturn, 1) := by decide +kernel
theorem dX11_corner_0 : decode YX11_corner.2.1 0 = .ok (.aload_n 0, 1) := by decide +kernel
theorem dX11_corner_1 : decode YX11_corner.2.1 1 = .ok (.getfield 28, 3) := by decide +kernel
theorem dX11_corner_4 : decode YX11_corner.2.1 4 = .ok (.iload_n 1, 1) := by decide +kernel
theorem dX11_corner_5 : decode YX11_corner.2.1 5 = .ok (.invokevirtual 192, 3) := by decide +kernel
theorem dX11_corner_8 : decode YX11_corner.2.1 8 = .ok (.ifCond .ne 5, 3) := by decide +kernel
theorem dX11_corner_11 : decode YX11_corner.2.1 11 = .ok (.iconst (-1), 1) := by decide +kernel
theorem dX11_corner_12 : decode YX11_corner.2.1 12 = .ok (.ireturn, 1) := by decide +kernel
theorem dX11_corner_13 : decode YX11_corner.2.1 13 = .ok (.iload_n 2, 1) := by decide +kernel
theorem dX11_corner_14 : decode YX11_corner.2.1 14 = .ok (.tableswitch 67 0 3 #[30, 39, 49, 58], 30) := by decide +kernel
theorem dX11_corner_44 : decode YX11_corner.2.1 44 = .ok (.aload_n 0, 1) := by decide +kernel
theorem dX11_corner_45 : decode YX11_corner.2.1 45 = .ok (.getfield 28, 3) := by decide +kernel
theorem dX11_corner_48 : decode YX11_corner.2.1 48 = .ok (.iload_n 1, 1) := by decide +kernel
theorem dX11_corner_49 : decode YX11_corner.2.1 49 = .ok (.invokevirtual 195, 3) := by decide +kernel
theorem dX11_corner_52 : decode YX11_corner.2.1 52 = .ok (.ireturn, 1) := by decide +kernel
theorem dX11_corner_53 : decode YX11_corner.2.1 53 = .ok (.aload_n 0, 1) := by decide +kernel
theorem dX11_corner_54 : decode YX11_corner.2.1 54 = .ok (.getfield 38, 3) := by decide +kernel
theorem dX11_corner_57 : decode YX11_corner.2.1 57 = .ok (.iload_n 1, 1) := by decide +kernel
theorem dX11_corner_58 : decode YX11_corner.2.1 58 = .ok (.iconst 0, 1) := by decide +kernel
theorem dX11_corner_59 : decode YX11_corner.2.1 59 = .ok (.invokevirtual 198, 3) := by decide +kernel
theorem dX11_corner_62 : decode YX11_corner.2.1 62 = .ok (.ireturn, 1) := by decide +kernel
theorem dX11_corner_63 : decode YX11_corner.2.1 63 = .ok (.aload_n 0, 1) := by decide +kernel
theorem dX11_corner_64 : decode YX11_corner.2.1 64 = .ok (.getfield 38, 3) := by decide +kernel
theorem dX11_corner_67 : decode YX11_corner.2.1 67 = .ok (.iload_n 1, 1) := by decide +kernel
theorem dX11_corner_68 : decode YX11_corner.2.1 68 = .ok (.invokevirtual 201, 3) := by decide +kernel
theorem dX11_corner_71 : decode YX11_corner.2.1 71 = .ok (.ireturn, 1) := by decide +kernel
theorem dX11_corner_72 : decode YX11_corner.2.1 72 = .ok (.aload_n 0, 1) := by decide +kernel
theorem dX11_corner_73 : decode YX11_corner.2.1 73 = .ok (.getfield 38, 3) := by decide +kernel
theorem dX11_corner_76 : decode YX11_corner.2.1 76 = .ok (.iload_n 1, 1) := by decide +kernel
theorem dX11_corner_77 : decode YX11_corner.2.1 77 = .ok (.invokevirtual 204, 3) := by decide +kernel
theorem dX11_corner_80 : decode YX11_corner.2.1 80 = .ok (.ireturn, 1) := by decide +kernel
theorem dX11_corner_81 : decode YX11_corner.2.1 81 = .ok (.iconst (-1), 1) := by decide +kernel
theorem dX11_corner_82 : decode YX11_corner.2.1 82 = .ok (.ireturn, 1) := by decide +kernel
theorem dX11_count_0 : decode YX11_count.2.1 0 = .ok (.iload_n 1, 1) := by decide +kernel
theorem dX11_count_1 : decode YX11_count.2.1 1 = .ok (.tableswitch 63 0 3 #[31, 39, 47, 55], 31) := by decide +kernel
theorem dX11_count_32 : decode YX11_count.2.1 32 = .ok (.aload_n 0, 1) := by decide +kernel
theorem dX11_count_33 : decode YX11_count.2.1 33 = .ok (.getfield 28, 3) := by decide +kernel
theorem dX11_count_36 : decode YX11_count.2.1 36 = .ok (.invokevirtual 393, 3) := by decide +kernel
theorem dX11_count_39 : decode YX11_count.2.1 39 = .ok (.ireturn, 1) := by decide +kernel
theorem dX11_count_40 : decode YX11_count.2.1 40 = .ok (.aload_n 0, 1) := by decide +kernel
theorem dX11_count_41 : decode YX11_count.2.1 41 = .ok (.getfield 28, 3) := by decide +kernel
theorem dX11_count_44 : decode YX11_count.2.1 44 = .ok (.invokevirtual 396, 3) := by decide +kernel
theorem dX11_count_47 : decode YX11_count.2.1 47 = .ok (.ireturn, 1) := by decide +kernel
theorem dX11_count_48 : decode YX11_count.2.1 48 = .ok (.aload_n 0, 1) := by decide +kernel
theorem dX11_count_49 : decode YX11_count.2.1 49 = .ok (.getfield 28, 3) := by decide +kernel
theorem dX11_count_52 : decode YX11_count.2.1 52 = .ok (.invokevirtual 308, 3) := by decide +kernel
theorem dX11_count_55 : decode YX11_count.2.1 55 = .ok (.ireturn, 1) := by decide +kernel
theorem dX11_count_56 : decode YX11_count.2.1 56 = .ok (.aload_n 0, 1) := by decide +kernel
theorem dX11_count_57 : decode YX11_count.2.1 57 = .ok (.getfield 10, 3) := by decide +kernel
theorem dX11_count_60 : decode YX11_count.2.1 60 = .ok (.invokevirtual 122, 3) := by decide +kernel
theorem dX11_count_63 : decode YX11_count.2.1 63 = .ok (.ireturn, 1) := by decide +kernel
theorem dX11_count_64 : decode YX11_count.2.1 64 = .ok (.iconst (-1), 1) := by decide +kernel
theorem dX11_count_65 : decode YX11_count.2.1 65 = .ok (.ireturn, 1) := by decide +kernel
theorem dX11_cut_0 : decode YX11_cut.2.1 0 = .ok (.aload_n 0, 1) := by decide +kernel
theorem dX11_cut_1 : decode YX11_cut.2.1 1 = .ok (.aload_n 0, 1) := by decide +kernel
theorem dX11_cut_2 : decode YX11_cut.2.1 2 = .ok (.getfield 38, 3) := by decide +kernel
theorem dX11_cut_5 : decode YX11_cut.2.1 5 = .ok (.invokevirtual 219, 3) := by decide +kernel
theorem dX11_cut_8 : decode YX11_cut.2.1 8 = .ok (.putfield 104, 3) := by decide +kernel
theorem dX11_cut_11 : decode YX11_cut.2.1 11 = .ok (.aload_n 0, 1) := by decide +kernel
theorem dX11_cut_12 : decode YX11_cut.2.1 12 = .ok (.getfield 104, 3) := by decide +kernel
theorem dX11_cut_15 : decode YX11_cut.2.1 15 = .ok (.invokestatic 222, 3) := by decide +kernel
theorem dX11_cut_18 : decode YX11_cut.2.1 18 = .ok (.ireturn, 1) := by decide +kernel
theorem dX11_cutting_0 : decode YX11_cutting.2.1 0 = .ok (.aload_n 0, 1) := by decide +kernel
theorem dX11_cutting_1 : decode YX11_cutting.2.1 1 = .ok (.getfield 104, 3) := by decide +kernel
theorem dX11_cutting_4 : decode YX11_cutting.2.1 4 = .ok (.ireturn, 1) := by decide +kernel
theorem dX11_end_0 : decode YX11_end.2.1 0 = .ok (.aload_n 0, 1) := by decide +kernel
theorem dX11_end_1 : decode YX11_end.2.1 1 = .ok (.getfield 10, 3) := by decide +kernel
theorem dX11_end_4 : decode YX11_end.2.1 4 = .ok (.iload_n 1, 1) := by decide +kernel
theorem dX11_end_5 : decode YX11_end.2.1 5 = .ok (.invokevirtual 126, 3) := by decide +kernel
theorem dX11_end_8 : decode YX11_end.2.1 8 = .ok (.ireturn, 1) := by decide +kernel
theorem dX11_fault_0 : decode YX11_fault.2.1 0 = .ok (.aload_n 0, 1) := by decide +kernel
theorem dX11_fault_1 : decode YX11_fault.2.1 1 = .ok (.getfield 139, 3) := by decide +kernel
theorem dX11_fault_4 : decode YX11_fault.2.1 4 = .ok (.ireturn, 1) := by decide +kernel
theorem dX11_feed_0 : decode YX11_feed.2.1 0 = .ok (.aload_n 0, 1) := by decide +kernel
theorem dX11_feed_1 : decode YX11_feed.2.1 1 = .ok (.getfield 10, 3) := by decide +kernel
theorem dX11_feed_4 : decode YX11_feed.2.1 4 = .ok (.bipush 20, 2) := by decide +kernel
theorem dX11_feed_6 : decode YX11_feed.2.1 6 = .ok (.invokevirtual 114, 3) := by decide +kernel
theorem dX11_feed_9 : decode YX11_feed.2.1 9 = .ok (.ifCond .ne 5, 3) := by decide +kernel
theorem dX11_feed_12 : decode YX11_feed.2.1 12 = .ok (.iconst (-1), 1) := by decide +kernel
theorem dX11_feed_13 : decode YX11_feed.2.1 13 = .ok (.ireturn, 1) := by decide +kernel
theorem dX11_feed_14 : decode YX11_feed.2.1 14 = .ok (.aload_n 0, 1) := by decide +kernel
theorem dX11_feed_15 : decode YX11_feed.2.1 15 = .ok (.getfield 10, 3) := by decide +kernel
theorem dX11_feed_18 : decode YX11_feed.2.1 18 = .ok (.iload_n 1, 1) := by decide +kernel
theorem dX11_feed_19 : decode YX11_feed.2.1 19 = .ok (.invokevirtual 118, 3) := by decide +kernel
theorem dX11_feed_22 : decode YX11_feed.2.1 22 = .ok (.aload_n 0, 1) := by decide +kernel
theorem dX11_feed_23 : decode YX11_feed.2.1 23 = .ok (.getfield 10, 3) := by decide +kernel
theorem dX11_feed_26 : decode YX11_feed.2.1 26 = .ok (.iload_n 2, 1) := by decide +kernel
theorem dX11_feed_27 : decode YX11_feed.2.1 27 = .ok (.invokevirtual 118, 3) := by decide +kernel
theorem dX11_feed_30 : decode YX11_feed.2.1 30 = .ok (.aload_n 0, 1) := by decide +kernel
theorem dX11_feed_31 : decode YX11_feed.2.1 31 = .ok (.getfield 10, 3) := by decide +kernel
theorem dX11_feed_34 : decode YX11_feed.2.1 34 = .ok (.iload_n 3, 1) := by decide +kernel
theorem dX11_feed_35 : decode YX11_feed.2.1 35 = .ok (.invokevirtual 118, 3) := by decide +kernel
theorem dX11_feed_38 : decode YX11_feed.2.1 38 = .ok (.aload_n 0, 1) := by decide +kernel
theorem dX11_feed_39 : decode YX11_feed.2.1 39 = .ok (.getfield 10, 3) := by decide +kernel
theorem dX11_feed_42 : decode YX11_feed.2.1 42 = .ok (.iload 4, 2) := by decide +kernel
theorem dX11_feed_44 : decode YX11_feed.2.1 44 = .ok (.invokevirtual 118, 3) := by decide +kernel
theorem dX11_feed_47 : decode YX11_feed.2.1 47 = .ok (.aload_n 0, 1) := by decide +kernel
theorem dX11_feed_48 : decode YX11_feed.2.1 48 = .ok (.getfield 10, 3) := by decide +kernel
theorem dX11_feed_51 : decode YX11_feed.2.1 51 = .ok (.iload 5, 2) := by decide +kernel
theorem dX11_feed_53 : decode YX11_feed.2.1 53 = .ok (.invokevirtual 118, 3) := by decide +kernel
theorem dX11_feed_56 : decode YX11_feed.2.1 56 = .ok (.aload_n 0, 1) := by decide +kernel
theorem dX11_feed_57 : decode YX11_feed.2.1 57 = .ok (.getfield 10, 3) := by decide +kernel
theorem dX11_feed_60 : decode YX11_feed.2.1 60 = .ok (.invokevirtual 122, 3) := by decide +kernel
theorem dX11_feed_63 : decode YX11_feed.2.1 63 = .ok (.ireturn, 1) := by decide +kernel
theorem dX11_fits_0 : decode YX11_fits.2.1 0 = .ok (.aload_n 0, 1) := by decide +kernel
theorem dX11_fits_1 : decode YX11_fits.2.1 1 = .ok (.invokevirtual 276, 3) := by decide +kernel
theorem dX11_fits_4 : decode YX11_fits.2.1 4 = .ok (.istore_n 1, 1) := by decide +kernel
theorem dX11_fits_5 : decode YX11_fits.2.1 5 = .ok (.aload_n 0, 1) := by decide +kernel
theorem dX11_fits_6 : decode YX11_fits.2.1 6 = .ok (.getfield 10, 3) := by decide +kernel
theorem dX11_fits_9 : decode YX11_fits.2.1 9 = .ok (.invokevirtual 141, 3) := by decide +kernel
theorem dX11_fits_12 : decode YX11_fits.2.1 12 = .ok (.iload_n 1, 1) := by decide +kernel
theorem dX11_fits_13 : decode YX11_fits.2.1 13 = .ok (.ifCond .le 12, 3) := by decide +kernel
theorem dX11_fits_16 : decode YX11_fits.2.1 16 = .ok (.aload_n 0, 1) := by decide +kernel
theorem dX11_fits_17 : decode YX11_fits.2.1 17 = .ok (.aload_n 0, 1) := by decide +kernel
theorem dX11_fits_18 : decode YX11_fits.2.1 18 = .ok (.iload_n 1, 1) := by decide +kernel
theorem dX11_fits_19 : decode YX11_fits.2.1 19 = .ok (.invokevirtual 279, 3) := by decide +kernel
theorem dX11_fits_22 : decode YX11_fits.2.1 22 = .ok (.putfield 110, 3) := by decide +kernel
theorem dX11_fits_25 : decode YX11_fits.2.1 25 = .ok (.iload_n 1, 1) := by decide +kernel
theorem dX11_fits_26 : decode YX11_fits.2.1 26 = .ok (.ireturn, 1) := by decide +kernel
theorem dX11_hasBit_0 : decode YX11_hasBit.2.1 0 = .ok (.iload_n 0, 1) := by decide +kernel
theorem dX11_hasBit_1 : decode YX11_hasBit.2.1 1 = .ok (.iload_n 1, 1) := by decide +kernel
theorem dX11_hasBit_2 : decode YX11_hasBit.2.1 2 = .ok (.ishr, 1) := by decide +kernel
theorem dX11_hasBit_3 : decode YX11_hasBit.2.1 3 = .ok (.iconst 1, 1) := by decide +kernel
theorem dX11_hasBit_4 : decode YX11_hasBit.2.1 4 = .ok (.iand, 1) := by decide +kernel
theorem dX11_hasBit_5 : decode YX11_hasBit.2.1 5 = .ok (.ifCond .eq 7, 3) := by decide +kernel
theorem dX11_hasBit_8 : decode YX11_hasBit.2.1 8 = .ok (.iconst 1, 1) := by decide +kernel
theorem dX11_hasBit_9 : decode YX11_hasBit.2.1 9 = .ok (.goto 4, 3) := by decide +kernel
theorem dX11_hasBit_12 : decode YX11_hasBit.2.1 12 = .ok (.iconst 0, 1) := by decide +kernel
theorem dX11_hasBit_13 : decode YX11_hasBit.2.1 13 = .ok (.ireturn, 1) := by decide +kernel
theorem dX11_hiredBy_0 : decode YX11_hiredBy.2.1 0 = .ok (.aload_n 0, 1) := by decide +kernel
theorem dX11_hiredBy_1 : decode YX11_hiredBy.2.1 1 = .ok (.getfield 78, 3) := by decide +kernel
theorem dX11_hiredBy_4 : decode YX11_hiredBy.2.1 4 = .ok (.iload_n 1, 1) := by decide +kernel
theorem dX11_hiredBy_5 : decode YX11_hiredBy.2.1 5 = .ok (.invokevirtual 305, 3) := by decide +kernel
theorem dX11_hiredBy_8 : decode YX11_hiredBy.2.1 8 = .ok (.ireturn, 1) := by decide +kernel
theorem dX11_hiresFar_0 : decode YX11_hiresFar.2.1 0 = .ok (.aload_n 0, 1) := by decide +kernel
theorem dX11_hiresFar_1 : decode YX11_hiresFar.2.1 1 = .ok (.getfield 78, 3) := by decide +kernel
theorem dX11_hiresFar_4 : decode YX11_hiresFar.2.1 4 = .ok (.invokevirtual 302, 3) := by decide +kernel
theorem dX11_hiresFar_7 : decode YX11_hiresFar.2.1 7 = .ok (.ireturn, 1) := by decide +kernel
theorem dX11_meet_0 : decode YX11_meet.2.1 0 = .ok (.aload_n 0, 1) := by decide +kernel
theorem dX11_meet_1 : decode YX11_meet.2.1 1 = .ok (.getfield 28, 3) := by decide +kernel
theorem dX11_meet_4 : decode YX11_meet.2.1 4 = .ok (.iload_n 1, 1) := by decide +kernel
theorem dX11_meet_5 : decode YX11_meet.2.1 5 = .ok (.invokevirtual 156, 3) := by decide +kernel
theorem dX11_meet_8 : decode YX11_meet.2.1 8 = .ok (.ifCond .eq 19, 3) := by decide +kernel
theorem dX11_meet_11 : decode YX11_meet.2.1 11 = .ok (.aload_n 0, 1) := by decide +kernel
theorem dX11_meet_12 : decode YX11_meet.2.1 12 = .ok (.getfield 28, 3) := by decide +kernel
theorem dX11_meet_15 : decode YX11_meet.2.1 15 = .ok (.iload_n 2, 1) := by decide +kernel
theorem dX11_meet_16 : decode YX11_meet.2.1 16 = .ok (.invokevirtual 156, 3) := by decide +kernel
theorem dX11_meet_19 : decode YX11_meet.2.1 19 = .ok (.ifCond .eq 8, 3) := by decide +kernel
theorem dX11_meet_22 : decode YX11_meet.2.1 22 = .ok (.iload_n 1, 1) := by decide +kernel
theorem dX11_meet_23 : decode YX11_meet.2.1 23 = .ok (.iload_n 2, 1) := by decide +kernel
theorem dX11_meet_24 : decode YX11_meet.2.1 24 = .ok (.if_icmp .ne 5, 3) := by decide +kernel
theorem dX11_meet_27 : decode YX11_meet.2.1 27 = .ok (.iconst (-1), 1) := by decide +kernel
theorem dX11_meet_28 : decode YX11_meet.2.1 28 = .ok (.ireturn, 1) := by decide +kernel
theorem dX11_meet_29 : decode YX11_meet.2.1 29 = .ok (.aload_n 0, 1) := by decide +kernel
theorem dX11_meet_30 : decode YX11_meet.2.1 30 = .ok (.getfield 42, 3) := by decide +kernel
theorem dX11_meet_33 : decode YX11_meet.2.1 33 = .ok (.aload_n 0, 1) := by decide +kernel
theorem dX11_meet_34 : decode YX11_meet.2.1 34 = .ok (.getfield 38, 3) := by decide +kernel
theorem dX11_meet_37 : decode YX11_meet.2.1 37 = .ok (.invokevirtual 151, 3) := by decide +kernel
theorem dX11_meet_40 : decode YX11_meet.2.1 40 = .ok (.iconst 0, 1) := by decide +kernel
theorem dX11_meet_41 : decode YX11_meet.2.1 41 = .ok (.istore_n 3, 1) := by decide +kernel
theorem dX11_meet_42 : decode YX11_meet.2.1 42 = .ok (.iload_n 3, 1) := by decide +kernel
theorem dX11_meet_43 : decode YX11_meet.2.1 43 = .ok (.bipush 99, 2) := by decide +kernel
theorem dX11_meet_45 : decode YX11_meet.2.1 45 = .ok (.if_icmp .gt 42, 3) := by decide +kernel
theorem dX11_meet_48 : decode YX11_meet.2.1 48 = .ok (.aload_n 0, 1) := by decide +kernel
theorem dX11_meet_49 : decode YX11_meet.2.1 49 = .ok (.getfield 42, 3) := by decide +kernel
theorem dX11_meet_52 : decode YX11_meet.2.1 52 = .ok (.iload_n 1, 1) := by decide +kernel
theorem dX11_meet_53 : decode YX11_meet.2.1 53 = .ok (.invokevirtual 166, 3) := by decide +kernel
theorem dX11_meet_56 : decode YX11_meet.2.1 56 = .ok (.aload_n 0, 1) := by decide +kernel
theorem dX11_meet_57 : decode YX11_meet.2.1 57 = .ok (.getfield 42, 3) := by decide +kernel
theorem dX11_meet_60 : decode YX11_meet.2.1 60 = .ok (.iload_n 2, 1) := by decide +kernel
theorem dX11_meet_61 : decode YX11_meet.2.1 61 = .ok (.invokevirtual 166, 3) := by decide +kernel
theorem dX11_meet_64 : decode YX11_meet.2.1 64 = .ok (.if_icmp .ne 5, 3) := by decide +kernel
theorem dX11_meet_67 : decode YX11_meet.2.1 67 = .ok (.iload_n 3, 1) := by decide +kernel
theorem dX11_meet_68 : decode YX11_meet.2.1 68 = .ok (.ireturn, 1) := by decide +kernel
theorem dX11_meet_69 : decode YX11_meet.2.1 69 = .ok (.aload_n 0, 1) := by decide +kernel
theorem dX11_meet_70 : decode YX11_meet.2.1 70 = .ok (.getfield 42, 3) := by decide +kernel
theorem dX11_meet_73 : decode YX11_meet.2.1 73 = .ok (.aload_n 0, 1) := by decide +kernel
theorem dX11_meet_74 : decode YX11_meet.2.1 74 = .ok (.getfield 28, 3) := by decide +kernel
theorem dX11_meet_77 : decode YX11_meet.2.1 77 = .ok (.iconst 1, 1) := by decide +kernel
theorem dX11_meet_78 : decode YX11_meet.2.1 78 = .ok (.invokevirtual 258, 3) := by decide +kernel
theorem dX11_meet_81 : decode YX11_meet.2.1 81 = .ok (.iinc 3 1, 3) := by decide +kernel
theorem dX11_meet_84 : decode YX11_meet.2.1 84 = .ok (.goto (-42), 3) := by decide +kernel
theorem dX11_meet_87 : decode YX11_meet.2.1 87 = .ok (.iconst (-1), 1) := by decide +kernel
theorem dX11_meet_88 : decode YX11_meet.2.1 88 = .ok (.ireturn, 1) := by decide +kernel
theorem dX11_now_0 : decode YX11_now.2.1 0 = .ok (.iload_n 1, 1) := by decide +kernel
theorem dX11_now_1 : decode YX11_now.2.1 1 = .ok (.tableswitch 102 0 6 #[43, 51, 59, 67, 75, 86, 94], 43) := by decide +kernel
theorem dX11_now_44 : decode YX11_now.2.1 44 = .ok (.aload_n 0, 1) := by decide +kernel
theorem dX11_now_45 : decode YX11_now.2.1 45 = .ok (.getfield 38, 3) := by decide +kernel
theorem dX11_now_48 : decode YX11_now.2.1 48 = .ok (.invokevirtual 207, 3) := by decide +kernel
theorem dX11_now_51 : decode YX11_now.2.1 51 = .ok (.ireturn, 1) := by decide +kernel
theorem dX11_now_52 : decode YX11_now.2.1 52 = .ok (.aload_n 0, 1) := by decide +kernel
theorem dX11_now_53 : decode YX11_now.2.1 53 = .ok (.getfield 38, 3) := by decide +kernel
theorem dX11_now_56 : decode YX11_now.2.1 56 = .ok (.invokevirtual 210, 3) := by decide +kernel
theorem dX11_now_59 : decode YX11_now.2.1 59 = .ok (.ireturn, 1) := by decide +kernel
theorem dX11_now_60 : decode YX11_now.2.1 60 = .ok (.aload_n 0, 1) := by decide +kernel
theorem dX11_now_61 : decode YX11_now.2.1 61 = .ok (.getfield 38, 3) := by decide +kernel
theorem dX11_now_64 : decode YX11_now.2.1 64 = .ok (.invokevirtual 213, 3) := by decide +kernel
theorem dX11_now_67 : decode YX11_now.2.1 67 = .ok (.ireturn, 1) := by decide +kernel
theorem dX11_now_68 : decode YX11_now.2.1 68 = .ok (.aload_n 0, 1) := by decide +kernel
theorem dX11_now_69 : decode YX11_now.2.1 69 = .ok (.getfield 38, 3) := by decide +kernel
theorem dX11_now_72 : decode YX11_now.2.1 72 = .ok (.invokevirtual 216, 3) := by decide +kernel
theorem dX11_now_75 : decode YX11_now.2.1 75 = .ok (.ireturn, 1) := by decide +kernel
theorem dX11_now_76 : decode YX11_now.2.1 76 = .ok (.aload_n 0, 1) := by decide +kernel
theorem dX11_now_77 : decode YX11_now.2.1 77 = .ok (.getfield 38, 3) := by decide +kernel
theorem dX11_now_80 : decode YX11_now.2.1 80 = .ok (.invokevirtual 219, 3) := by decide +kernel
theorem dX11_now_83 : decode YX11_now.2.1 83 = .ok (.invokestatic 222, 3) := by decide +kernel
theorem dX11_now_86 : decode YX11_now.2.1 86 = .ok (.ireturn, 1) := by decide +kernel
theorem dX11_now_87 : decode YX11_now.2.1 87 = .ok (.aload_n 0, 1) := by decide +kernel
theorem dX11_now_88 : decode YX11_now.2.1 88 = .ok (.getfield 38, 3) := by decide +kernel
theorem dX11_now_91 : decode YX11_now.2.1 91 = .ok (.invokevirtual 227, 3) := by decide +kernel
theorem dX11_now_94 : decode YX11_now.2.1 94 = .ok (.ireturn, 1) := by decide +kernel
theorem dX11_now_95 : decode YX11_now.2.1 95 = .ok (.aload_n 0, 1) := by decide +kernel
theorem dX11_now_96 : decode YX11_now.2.1 96 = .ok (.getfield 38, 3) := by decide +kernel
theorem dX11_now_99 : decode YX11_now.2.1 99 = .ok (.invokevirtual 230, 3) := by decide +kernel
theorem dX11_now_102 : decode YX11_now.2.1 102 = .ok (.ireturn, 1) := by decide +kernel
theorem dX11_now_103 : decode YX11_now.2.1 103 = .ok (.iconst (-1), 1) := by decide +kernel
theorem dX11_now_104 : decode YX11_now.2.1 104 = .ok (.ireturn, 1) := by decide +kernel
theorem dX11_odds_0 : decode YX11_odds.2.1 0 = .ok (.aload_n 0, 1) := by decide +kernel
theorem dX11_odds_1 : decode YX11_odds.2.1 1 = .ok (.getfield 28, 3) := by decide +kernel
theorem dX11_odds_4 : decode YX11_odds.2.1 4 = .ok (.iload_n 1, 1) := by decide +kernel
theorem dX11_odds_5 : decode YX11_odds.2.1 5 = .ok (.invokevirtual 156, 3) := by decide +kernel
theorem dX11_odds_8 : decode YX11_odds.2.1 8 = .ok (.ifCond .eq 14, 3) := by decide +kernel
theorem dX11_odds_11 : decode YX11_odds.2.1 11 = .ok (.iload_n 2, 1) := by decide +kernel
theorem dX11_odds_12 : decode YX11_odds.2.1 12 = .ok (.iconst 1, 1) := by decide +kernel
theorem dX11_odds_13 : decode YX11_odds.2.1 13 = .ok (.if_icmp .lt 9, 3) := by decide +kernel
theorem dX11_odds_16 : decode YX11_odds.2.1 16 = .ok (.iload_n 2, 1) := by decide +kernel
theorem dX11_odds_17 : decode YX11_odds.2.1 17 = .ok (.bipush 30, 2) := by decide +kernel
theorem dX11_odds_19 : decode YX11_odds.2.1 19 = .ok (.if_icmp .le 5, 3) := by decide +kernel
theorem dX11_odds_22 : decode YX11_odds.2.1 22 = .ok (.iconst (-1), 1) := by decide +kernel
theorem dX11_odds_23 : decode YX11_odds.2.1 23 = .ok (.ireturn, 1) := by decide +kernel
theorem dX11_odds_24 : decode YX11_odds.2.1 24 = .ok (.iconst 0, 1) := by decide +kernel
theorem dX11_odds_25 : decode YX11_odds.2.1 25 = .ok (.istore 4, 2) := by decide +kernel
theorem dX11_odds_27 : decode YX11_odds.2.1 27 = .ok (.iconst 0, 1) := by decide +kernel
theorem dX11_odds_28 : decode YX11_odds.2.1 28 = .ok (.istore 5, 2) := by decide +kernel
theorem dX11_odds_30 : decode YX11_odds.2.1 30 = .ok (.iload 5, 2) := by decide +kernel
theorem dX11_odds_32 : decode YX11_odds.2.1 32 = .ok (.iload_n 2, 1) := by decide +kernel
theorem dX11_odds_33 : decode YX11_odds.2.1 33 = .ok (.if_icmp .ge 56, 3) := by decide +kernel
theorem dX11_odds_36 : decode YX11_odds.2.1 36 = .ok (.aload_n 0, 1) := by decide +kernel
theorem dX11_odds_37 : decode YX11_odds.2.1 37 = .ok (.getfield 42, 3) := by decide +kernel
theorem dX11_odds_40 : decode YX11_odds.2.1 40 = .ok (.aload_n 0, 1) := by decide +kernel
theorem dX11_odds_41 : decode YX11_odds.2.1 41 = .ok (.getfield 38, 3) := by decide +kernel
theorem dX11_odds_44 : decode YX11_odds.2.1 44 = .ok (.invokevirtual 151, 3) := by decide +kernel
theorem dX11_odds_47 : decode YX11_odds.2.1 47 = .ok (.aload_n 0, 1) := by decide +kernel
theorem dX11_odds_48 : decode YX11_odds.2.1 48 = .ok (.getfield 85, 3) := by decide +kernel
theorem dX11_odds_51 : decode YX11_odds.2.1 51 = .ok (.aload_n 0, 1) := by decide +kernel
theorem dX11_odds_52 : decode YX11_odds.2.1 52 = .ok (.getfield 28, 3) := by decide +kernel
theorem dX11_odds_55 : decode YX11_odds.2.1 55 = .ok (.aload_n 0, 1) := by decide +kernel
theorem dX11_odds_56 : decode YX11_odds.2.1 56 = .ok (.getfield 42, 3) := by decide +kernel
theorem dX11_odds_59 : decode YX11_odds.2.1 59 = .ok (.bipush 10, 2) := by decide +kernel
theorem dX11_odds_61 : decode YX11_odds.2.1 61 = .ok (.iload_n 3, 1) := by decide +kernel
theorem dX11_odds_62 : decode YX11_odds.2.1 62 = .ok (.iload 5, 2) := by decide +kernel
theorem dX11_odds_64 : decode YX11_odds.2.1 64 = .ok (.iadd, 1) := by decide +kernel
theorem dX11_odds_65 : decode YX11_odds.2.1 65 = .ok (.invokevirtual 346, 3) := by decide +kernel
theorem dX11_odds_68 : decode YX11_odds.2.1 68 = .ok (.pop, 1) := by decide +kernel
theorem dX11_odds_69 : decode YX11_odds.2.1 69 = .ok (.aload_n 0, 1) := by decide +kernel
theorem dX11_odds_70 : decode YX11_odds.2.1 70 = .ok (.getfield 42, 3) := by decide +kernel
theorem dX11_odds_73 : decode YX11_odds.2.1 73 = .ok (.iload_n 1, 1) := by decide +kernel
theorem dX11_odds_74 : decode YX11_odds.2.1 74 = .ok (.invokevirtual 182, 3) := by decide +kernel
theorem dX11_odds_77 : decode YX11_odds.2.1 77 = .ok (.ifCond .eq 6, 3) := by decide +kernel
theorem dX11_odds_80 : decode YX11_odds.2.1 80 = .ok (.iinc 4 1, 3) := by decide +kernel
theorem dX11_odds_83 : decode YX11_odds.2.1 83 = .ok (.iinc 5 1, 3) := by decide +kernel
theorem dX11_odds_86 : decode YX11_odds.2.1 86 = .ok (.goto (-56), 3) := by decide +kernel
theorem dX11_odds_89 : decode YX11_odds.2.1 89 = .ok (.iload 4, 2) := by decide +kernel
theorem dX11_odds_91 : decode YX11_odds.2.1 91 = .ok (.ireturn, 1) := by decide +kernel
theorem dX11_path_0 : decode YX11_path.2.1 0 = .ok (.aload_n 0, 1) := by decide +kernel
theorem dX11_path_1 : decode YX11_path.2.1 1 = .ok (.getfield 28, 3) := by decide +kernel
theorem dX11_path_4 : decode YX11_path.2.1 4 = .ok (.iload_n 1, 1) := by decide +kernel
theorem dX11_path_5 : decode YX11_path.2.1 5 = .ok (.invokevirtual 156, 3) := by decide +kernel
theorem dX11_path_8 : decode YX11_path.2.1 8 = .ok (.ifCond .ne 5, 3) := by decide +kernel
theorem dX11_path_11 : decode YX11_path.2.1 11 = .ok (.iconst (-1), 1) := by decide +kernel
theorem dX11_path_12 : decode YX11_path.2.1 12 = .ok (.ireturn, 1) := by decide +kernel
theorem dX11_path_13 : decode YX11_path.2.1 13 = .ok (.aload_n 0, 1) := by decide +kernel
theorem dX11_path_14 : decode YX11_path.2.1 14 = .ok (.getfield 38, 3) := by decide +kernel
theorem dX11_path_17 : decode YX11_path.2.1 17 = .ok (.iload_n 1, 1) := by decide +kernel
theorem dX11_path_18 : decode YX11_path.2.1 18 = .ok (.invokevirtual 166, 3) := by decide +kernel
theorem dX11_path_21 : decode YX11_path.2.1 21 = .ok (.istore_n 3, 1) := by decide +kernel
theorem dX11_path_22 : decode YX11_path.2.1 22 = .ok (.aload_n 0, 1) := by decide +kernel
theorem dX11_path_23 : decode YX11_path.2.1 23 = .ok (.getfield 28, 3) := by decide +kernel
theorem dX11_path_26 : decode YX11_path.2.1 26 = .ok (.iload_n 3, 1) := by decide +kernel
theorem dX11_path_27 : decode YX11_path.2.1 27 = .ok (.iload_n 2, 1) := by decide +kernel
theorem dX11_path_28 : decode YX11_path.2.1 28 = .ok (.invokevirtual 282, 3) := by decide +kernel
theorem dX11_path_31 : decode YX11_path.2.1 31 = .ok (.istore 4, 2) := by decide +kernel
theorem dX11_path_33 : decode YX11_path.2.1 33 = .ok (.iload 4, 2) := by decide +kernel
theorem dX11_path_35 : decode YX11_path.2.1 35 = .ok (.iconst (-1), 1) := by decide +kernel
theorem dX11_path_36 : decode YX11_path.2.1 36 = .ok (.if_icmp .ne 5, 3) := by decide +kernel
theorem dX11_path_39 : decode YX11_path.2.1 39 = .ok (.iconst (-1), 1) := by decide +kernel
theorem dX11_path_40 : decode YX11_path.2.1 40 = .ok (.ireturn, 1) := by decide +kernel
theorem dX11_path_41 : decode YX11_path.2.1 41 = .ok (.iconst 0, 1) := by decide +kernel
theorem dX11_path_42 : decode YX11_path.2.1 42 = .ok (.istore 5, 2) := by decide +kernel
theorem dX11_path_44 : decode YX11_path.2.1 44 = .ok (.iload 5, 2) := by decide +kernel
theorem dX11_path_46 : decode YX11_path.2.1 46 = .ok (.iload 4, 2) := by decide +kernel
theorem dX11_path_48 : decode YX11_path.2.1 48 = .ok (.if_icmp .ge 34, 3) := by decide +kernel
theorem dX11_path_51 : decode YX11_path.2.1 51 = .ok (.iload 5, 2) := by decide +kernel
theorem dX11_path_53 : decode YX11_path.2.1 53 = .ok (.bipush 8, 2) := by decide +kernel
theorem dX11_path_55 : decode YX11_path.2.1 55 = .ok (.if_icmp .ge 27, 3) := by decide +kernel
theorem dX11_path_58 : decode YX11_path.2.1 58 = .ok (.aload_n 0, 1) := by decide +kernel
theorem dX11_path_59 : decode YX11_path.2.1 59 = .ok (.getfield 28, 3) := by decide +kernel
theorem dX11_path_62 : decode YX11_path.2.1 62 = .ok (.iload_n 3, 1) := by decide +kernel
theorem dX11_path_63 : decode YX11_path.2.1 63 = .ok (.iload_n 2, 1) := by decide +kernel
theorem dX11_path_64 : decode YX11_path.2.1 64 = .ok (.invokevirtual 285, 3) := by decide +kernel
theorem dX11_path_67 : decode YX11_path.2.1 67 = .ok (.istore_n 3, 1) := by decide +kernel
theorem dX11_path_68 : decode YX11_path.2.1 68 = .ok (.aload_n 0, 1) := by decide +kernel
theorem dX11_path_69 : decode YX11_path.2.1 69 = .ok (.getfield 96, 3) := by decide +kernel
theorem dX11_path_72 : decode YX11_path.2.1 72 = .ok (.iload 5, 2) := by decide +kernel
theorem dX11_path_74 : decode YX11_path.2.1 74 = .ok (.iload_n 3, 1) := by decide +kernel
theorem dX11_path_75 : decode YX11_path.2.1 75 = .ok (.iastore, 1) := by decide +kernel
theorem dX11_path_76 : decode YX11_path.2.1 76 = .ok (.iinc 5 1, 3) := by decide +kernel
theorem dX11_path_79 : decode YX11_path.2.1 79 = .ok (.goto (-35), 3) := by decide +kernel
theorem dX11_path_82 : decode YX11_path.2.1 82 = .ok (.aload_n 0, 1) := by decide +kernel
theorem dX11_path_83 : decode YX11_path.2.1 83 = .ok (.iload 4, 2) := by decide +kernel
theorem dX11_path_85 : decode YX11_path.2.1 85 = .ok (.putfield 100, 3) := by decide +kernel
theorem dX11_path_88 : decode YX11_path.2.1 88 = .ok (.iload 4, 2) := by decide +kernel
theorem dX11_path_90 : decode YX11_path.2.1 90 = .ok (.ireturn, 1) := by decide +kernel
theorem dX11_pathAt_0 : decode YX11_pathAt.2.1 0 = .ok (.iload_n 1, 1) := by decide +kernel
theorem dX11_pathAt_1 : decode YX11_pathAt.2.1 1 = .ok (.ifCond .lt 26, 3) := by decide +kernel
theorem dX11_pathAt_4 : decode YX11_pathAt.2.1 4 = .ok (.iload_n 1, 1) := by decide +kernel
theorem dX11_pathAt_5 : decode YX11_pathAt.2.1 5 = .ok (.aload_n 0, 1) := by decide +kernel
theorem dX11_pathAt_6 : decode YX11_pathAt.2.1 6 = .ok (.getfield 100, 3) := by decide +kernel
theorem dX11_pathAt_9 : decode YX11_pathAt.2.1 9 = .ok (.if_icmp .ge 18, 3) := by decide +kernel
theorem dX11_pathAt_12 : decode YX11_pathAt.2.1 12 = .ok (.iload_n 1, 1) := by decide +kernel
theorem dX11_pathAt_13 : decode YX11_pathAt.2.1 13 = .ok (.bipush 8, 2) := by decide +kernel
theorem dX11_pathAt_15 : decode YX11_pathAt.2.1 15 = .ok (.if_icmp .ge 12, 3) := by decide +kernel
theorem dX11_pathAt_18 : decode YX11_pathAt.2.1 18 = .ok (.aload_n 0, 1) := by decide +kernel
theorem dX11_pathAt_19 : decode YX11_pathAt.2.1 19 = .ok (.getfield 96, 3) := by decide +kernel
theorem dX11_pathAt_22 : decode YX11_pathAt.2.1 22 = .ok (.iload_n 1, 1) := by decide +kernel
theorem dX11_pathAt_23 : decode YX11_pathAt.2.1 23 = .ok (.iaload, 1) := by decide +kernel
theorem dX11_pathAt_24 : decode YX11_pathAt.2.1 24 = .ok (.goto 4, 3) := by decide +kernel
theorem dX11_pathAt_27 : decode YX11_pathAt.2.1 27 = .ok (.iconst (-1), 1) := by decide +kernel
theorem dX11_pathAt_28 : decode YX11_pathAt.2.1 28 = .ok (.ireturn, 1) := by decide +kernel
theorem dX11_proper_0 : decode YX11_proper.2.1 0 = .ok (.aload_n 0, 1) := by decide +kernel
theorem dX11_proper_1 : decode YX11_proper.2.1 1 = .ok (.getfield 28, 3) := by decide +kernel
theorem dX11_proper_4 : decode YX11_proper.2.1 4 = .ok (.iload_n 1, 1) := by decide +kernel
theorem dX11_proper_5 : decode YX11_proper.2.1 5 = .ok (.invokevirtual 156, 3) := by decide +kernel
theorem dX11_proper_8 : decode YX11_proper.2.1 8 = .ok (.ifCond .eq 19, 3) := by decide +kernel
theorem dX11_proper_11 : decode YX11_proper.2.1 11 = .ok (.aload_n 0, 1) := by decide +kernel
theorem dX11_proper_12 : decode YX11_proper.2.1 12 = .ok (.getfield 28, 3) := by decide +kernel
theorem dX11_proper_15 : decode YX11_proper.2.1 15 = .ok (.iload_n 2, 1) := by decide +kernel
theorem dX11_proper_16 : decode YX11_proper.2.1 16 = .ok (.invokevirtual 156, 3) := by decide +kernel
theorem dX11_proper_19 : decode YX11_proper.2.1 19 = .ok (.ifCond .eq 8, 3) := by decide +kernel
theorem dX11_proper_22 : decode YX11_proper.2.1 22 = .ok (.iload_n 1, 1) := by decide +kernel
theorem dX11_proper_23 : decode YX11_proper.2.1 23 = .ok (.iload_n 2, 1) := by decide +kernel
theorem dX11_proper_24 : decode YX11_proper.2.1 24 = .ok (.if_icmp .ne 5, 3) := by decide +kernel
theorem dX11_proper_27 : decode YX11_proper.2.1 27 = .ok (.iconst (-1), 1) := by decide +kernel
theorem dX11_proper_28 : decode YX11_proper.2.1 28 = .ok (.ireturn, 1) := by decide +kernel
theorem dX11_proper_29 : decode YX11_proper.2.1 29 = .ok (.iconst 1, 1) := by decide +kernel
theorem dX11_proper_30 : decode YX11_proper.2.1 30 = .ok (.istore_n 3, 1) := by decide +kernel
theorem dX11_proper_31 : decode YX11_proper.2.1 31 = .ok (.iload_n 3, 1) := by decide +kernel
theorem dX11_proper_32 : decode YX11_proper.2.1 32 = .ok (.iconst 5, 1) := by decide +kernel
theorem dX11_proper_33 : decode YX11_proper.2.1 33 = .ok (.if_icmp .gt 21, 3) := by decide +kernel
theorem dX11_proper_36 : decode YX11_proper.2.1 36 = .ok (.aload_n 0, 1) := by decide +kernel
theorem dX11_proper_37 : decode YX11_proper.2.1 37 = .ok (.iload_n 1, 1) := by decide +kernel
theorem dX11_proper_38 : decode YX11_proper.2.1 38 = .ok (.iload_n 2, 1) := by decide +kernel
theorem dX11_proper_39 : decode YX11_proper.2.1 39 = .ok (.iload_n 3, 1) := by decide +kernel
theorem dX11_proper_40 : decode YX11_proper.2.1 40 = .ok (.invokevirtual 272, 3) := by decide +kernel
theorem dX11_proper_43 : decode YX11_proper.2.1 43 = .ok (.ifCond .eq 5, 3) := by decide +kernel
theorem dX11_proper_46 : decode YX11_proper.2.1 46 = .ok (.iload_n 3, 1) := by decide +kernel
theorem dX11_proper_47 : decode YX11_proper.2.1 47 = .ok (.ireturn, 1) := by decide +kernel
theorem dX11_proper_48 : decode YX11_proper.2.1 48 = .ok (.iinc 3 1, 3) := by decide +kernel
theorem dX11_proper_51 : decode YX11_proper.2.1 51 = .ok (.goto (-20), 3) := by decide +kernel
theorem dX11_proper_54 : decode YX11_proper.2.1 54 = .ok (.iconst (-1), 1) := by decide +kernel
theorem dX11_proper_55 : decode YX11_proper.2.1 55 = .ok (.ireturn, 1) := by decide +kernel
theorem dX11_ring_0 : decode YX11_ring.2.1 0 = .ok (.aload_n 0, 1) := by decide +kernel
theorem dX11_ring_1 : decode YX11_ring.2.1 1 = .ok (.getfield 28, 3) := by decide +kernel
theorem dX11_ring_4 : decode YX11_ring.2.1 4 = .ok (.iload_n 1, 1) := by decide +kernel
theorem dX11_ring_5 : decode YX11_ring.2.1 5 = .ok (.invokevirtual 156, 3) := by decide +kernel
theorem dX11_ring_8 : decode YX11_ring.2.1 8 = .ok (.ifCond .eq 14, 3) := by decide +kernel
theorem dX11_ring_11 : decode YX11_ring.2.1 11 = .ok (.aload_n 0, 1) := by decide +kernel
theorem dX11_ring_12 : decode YX11_ring.2.1 12 = .ok (.getfield 38, 3) := by decide +kernel
theorem dX11_ring_15 : decode YX11_ring.2.1 15 = .ok (.iload_n 1, 1) := by decide +kernel
theorem dX11_ring_16 : decode YX11_ring.2.1 16 = .ok (.invokevirtual 269, 3) := by decide +kernel
theorem dX11_ring_19 : decode YX11_ring.2.1 19 = .ok (.goto 4, 3) := by decide +kernel
theorem dX11_ring_22 : decode YX11_ring.2.1 22 = .ok (.iconst (-1), 1) := by decide +kernel
theorem dX11_ring_23 : decode YX11_ring.2.1 23 = .ok (.ireturn, 1) := by decide +kernel
theorem dX11_said_0 : decode YX11_said.2.1 0 = .ok (.aload_n 0, 1) := by decide +kernel
theorem dX11_said_1 : decode YX11_said.2.1 1 = .ok (.getfield 48, 3) := by decide +kernel
theorem dX11_said_4 : decode YX11_said.2.1 4 = .ok (.invokevirtual 369, 3) := by decide +kernel
theorem dX11_said_7 : decode YX11_said.2.1 7 = .ok (.ifCond .eq 8, 3) := by decide +kernel
theorem dX11_said_10 : decode YX11_said.2.1 10 = .ok (.iload_n 1, 1) := by decide +kernel
theorem dX11_said_11 : decode YX11_said.2.1 11 = .ok (.iconst (-1), 1) := by decide +kernel
theorem dX11_said_12 : decode YX11_said.2.1 12 = .ok (.if_icmp .ge 5, 3) := by decide +kernel
theorem dX11_said_15 : decode YX11_said.2.1 15 = .ok (.iconst (-1), 1) := by decide +kernel
theorem dX11_said_16 : decode YX11_said.2.1 16 = .ok (.ireturn, 1) := by decide +kernel
theorem dX11_said_17 : decode YX11_said.2.1 17 = .ok (.aload_n 0, 1) := by decide +kernel
theorem dX11_said_18 : decode YX11_said.2.1 18 = .ok (.getfield 48, 3) := by decide +kernel
theorem dX11_said_21 : decode YX11_said.2.1 21 = .ok (.aload_n 0, 1) := by decide +kernel
theorem dX11_said_22 : decode YX11_said.2.1 22 = .ok (.getfield 28, 3) := by decide +kernel
theorem dX11_said_25 : decode YX11_said.2.1 25 = .ok (.aload_n 0, 1) := by decide +kernel
theorem dX11_said_26 : decode YX11_said.2.1 26 = .ok (.getfield 38, 3) := by decide +kernel
theorem dX11_said_29 : decode YX11_said.2.1 29 = .ok (.invokevirtual 373, 3) := by decide +kernel
theorem dX11_said_32 : decode YX11_said.2.1 32 = .ok (.istore_n 2, 1) := by decide +kernel
theorem dX11_said_33 : decode YX11_said.2.1 33 = .ok (.iload_n 1, 1) := by decide +kernel
theorem dX11_said_34 : decode YX11_said.2.1 34 = .ok (.iconst (-1), 1) := by decide +kernel
theorem dX11_said_35 : decode YX11_said.2.1 35 = .ok (.if_icmp .ne 8, 3) := by decide +kernel
theorem dX11_said_38 : decode YX11_said.2.1 38 = .ok (.iload_n 2, 1) := by decide +kernel
theorem dX11_said_39 : decode YX11_said.2.1 39 = .ok (.invokestatic 222, 3) := by decide +kernel
theorem dX11_said_42 : decode YX11_said.2.1 42 = .ok (.ireturn, 1) := by decide +kernel
theorem dX11_said_43 : decode YX11_said.2.1 43 = .ok (.iconst 0, 1) := by decide +kernel
theorem dX11_said_44 : decode YX11_said.2.1 44 = .ok (.istore_n 3, 1) := by decide +kernel
theorem dX11_said_45 : decode YX11_said.2.1 45 = .ok (.iconst 0, 1) := by decide +kernel
theorem dX11_said_46 : decode YX11_said.2.1 46 = .ok (.istore 4, 2) := by decide +kernel
theorem dX11_said_48 : decode YX11_said.2.1 48 = .ok (.iload 4, 2) := by decide +kernel
theorem dX11_said_50 : decode YX11_said.2.1 50 = .ok (.bipush 6, 2) := by decide +kernel
theorem dX11_said_52 : decode YX11_said.2.1 52 = .ok (.if_icmp .ge 29, 3) := by decide +kernel
theorem dX11_said_55 : decode YX11_said.2.1 55 = .ok (.iload_n 2, 1) := by decide +kernel
theorem dX11_said_56 : decode YX11_said.2.1 56 = .ok (.iload 4, 2) := by decide +kernel
theorem dX11_said_58 : decode YX11_said.2.1 58 = .ok (.invokestatic 376, 3) := by decide +kernel
theorem dX11_said_61 : decode YX11_said.2.1 61 = .ok (.ifCond .eq 14, 3) := by decide +kernel
theorem dX11_said_64 : decode YX11_said.2.1 64 = .ok (.iload_n 3, 1) := by decide +kernel
theorem dX11_said_65 : decode YX11_said.2.1 65 = .ok (.iload_n 1, 1) := by decide +kernel
theorem dX11_said_66 : decode YX11_said.2.1 66 = .ok (.if_icmp .ne 6, 3) := by decide +kernel
theorem dX11_said_69 : decode YX11_said.2.1 69 = .ok (.iload 4, 2) := by decide +kernel
theorem dX11_said_71 : decode YX11_said.2.1 71 = .ok (.ireturn, 1) := by decide +kernel
theorem dX11_said_72 : decode YX11_said.2.1 72 = .ok (.iinc 3 1, 3) := by decide +kernel
theorem dX11_said_75 : decode YX11_said.2.1 75 = .ok (.iinc 4 1, 3) := by decide +kernel
theorem dX11_said_78 : decode YX11_said.2.1 78 = .ok (.goto (-30), 3) := by decide +kernel
theorem dX11_said_81 : decode YX11_said.2.1 81 = .ok (.iconst (-1), 1) := by decide +kernel
theorem dX11_said_82 : decode YX11_said.2.1 82 = .ok (.ireturn, 1) := by decide +kernel
theorem dX11_sentence_0 : decode YX11_sentence.2.1 0 = .ok (.aload_n 0, 1) := by decide +kernel
theorem dX11_sentence_1 : decode YX11_sentence.2.1 1 = .ok (.getfield 21, 3) := by decide +kernel
theorem dX11_sentence_4 : decode YX11_sentence.2.1 4 = .ok (.sipush 200, 3) := by decide +kernel
theorem dX11_sentence_7 : decode YX11_sentence.2.1 7 = .ok (.invokevirtual 129, 3) := by decide +kernel
theorem dX11_sentence_10 : decode YX11_sentence.2.1 10 = .ok (.aload_n 0, 1) := by decide +kernel
theorem dX11_sentence_11 : decode YX11_sentence.2.1 11 = .ok (.getfield 52, 3) := by decide +kernel
theorem dX11_sentence_14 : decode YX11_sentence.2.1 14 = .ok (.aload_n 0, 1) := by decide +kernel
theorem dX11_sentence_15 : decode YX11_sentence.2.1 15 = .ok (.getfield 21, 3) := by decide +kernel
theorem dX11_sentence_18 : decode YX11_sentence.2.1 18 = .ok (.aload_n 0, 1) := by decide +kernel
theorem dX11_sentence_19 : decode YX11_sentence.2.1 19 = .ok (.getfield 28, 3) := by decide +kernel
theorem dX11_sentence_22 : decode YX11_sentence.2.1 22 = .ok (.invokevirtual 362, 3) := by decide +kernel
theorem dX11_sentence_25 : decode YX11_sentence.2.1 25 = .ok (.aload_n 0, 1) := by decide +kernel
theorem dX11_sentence_26 : decode YX11_sentence.2.1 26 = .ok (.aload_n 0, 1) := by decide +kernel
theorem dX11_sentence_27 : decode YX11_sentence.2.1 27 = .ok (.getfield 21, 3) := by decide +kernel
theorem dX11_sentence_30 : decode YX11_sentence.2.1 30 = .ok (.invokevirtual 136, 3) := by decide +kernel
theorem dX11_sentence_33 : decode YX11_sentence.2.1 33 = .ok (.putfield 139, 3) := by decide +kernel
theorem dX11_sentence_36 : decode YX11_sentence.2.1 36 = .ok (.aload_n 0, 1) := by decide +kernel
theorem dX11_sentence_37 : decode YX11_sentence.2.1 37 = .ok (.getfield 10, 3) := by decide +kernel
theorem dX11_sentence_40 : decode YX11_sentence.2.1 40 = .ok (.invokevirtual 141, 3) := by decide +kernel
theorem dX11_sentence_43 : decode YX11_sentence.2.1 43 = .ok (.aload_n 0, 1) := by decide +kernel
theorem dX11_sentence_44 : decode YX11_sentence.2.1 44 = .ok (.getfield 139, 3) := by decide +kernel
theorem dX11_sentence_47 : decode YX11_sentence.2.1 47 = .ok (.ifCond .eq 13, 3) := by decide +kernel
theorem dX11_sentence_50 : decode YX11_sentence.2.1 50 = .ok (.iconst (-1), 1) := by decide +kernel
theorem dX11_sentence_51 : decode YX11_sentence.2.1 51 = .ok (.aload_n 0, 1) := by decide +kernel
theorem dX11_sentence_52 : decode YX11_sentence.2.1 52 = .ok (.getfield 21, 3) := by decide +kernel
theorem dX11_sentence_55 : decode YX11_sentence.2.1 55 = .ok (.invokevirtual 144, 3) := by decide +kernel
theorem dX11_sentence_58 : decode YX11_sentence.2.1 58 = .ok (.isub, 1) := by decide +kernel
theorem dX11_sentence_59 : decode YX11_sentence.2.1 59 = .ok (.ireturn, 1) := by decide +kernel
theorem dX11_sentence_60 : decode YX11_sentence.2.1 60 = .ok (.aload_n 0, 1) := by decide +kernel
theorem dX11_sentence_61 : decode YX11_sentence.2.1 61 = .ok (.getfield 48, 3) := by decide +kernel
theorem dX11_sentence_64 : decode YX11_sentence.2.1 64 = .ok (.aload_n 0, 1) := by decide +kernel
theorem dX11_sentence_65 : decode YX11_sentence.2.1 65 = .ok (.getfield 52, 3) := by decide +kernel
theorem dX11_sentence_68 : decode YX11_sentence.2.1 68 = .ok (.invokevirtual 363, 3) := by decide +kernel
theorem dX11_sentence_71 : decode YX11_sentence.2.1 71 = .ok (.aload_n 0, 1) := by decide +kernel
theorem dX11_sentence_72 : decode YX11_sentence.2.1 72 = .ok (.getfield 48, 3) := by decide +kernel
theorem dX11_sentence_75 : decode YX11_sentence.2.1 75 = .ok (.invokevirtual 366, 3) := by decide +kernel
theorem dX11_sentence_78 : decode YX11_sentence.2.1 78 = .ok (.ireturn, 1) := by decide +kernel
theorem dX11_staysUnseen_0 : decode YX11_staysUnseen.2.1 0 = .ok (.aload_n 0, 1) := by decide +kernel
theorem dX11_staysUnseen_1 : decode YX11_staysUnseen.2.1 1 = .ok (.getfield 42, 3) := by decide +kernel
theorem dX11_staysUnseen_4 : decode YX11_staysUnseen.2.1 4 = .ok (.aload_n 0, 1) := by decide +kernel
theorem dX11_staysUnseen_5 : decode YX11_staysUnseen.2.1 5 = .ok (.getfield 38, 3) := by decide +kernel
theorem dX11_staysUnseen_8 : decode YX11_staysUnseen.2.1 8 = .ok (.invokevirtual 151, 3) := by decide +kernel
theorem dX11_staysUnseen_11 : decode YX11_staysUnseen.2.1 11 = .ok (.aload_n 0, 1) := by decide +kernel
theorem dX11_staysUnseen_12 : decode YX11_staysUnseen.2.1 12 = .ok (.getfield 42, 3) := by decide +kernel
theorem dX11_staysUnseen_15 : decode YX11_staysUnseen.2.1 15 = .ok (.iload_n 1, 1) := by decide +kernel
theorem dX11_staysUnseen_16 : decode YX11_staysUnseen.2.1 16 = .ok (.iload_n 2, 1) := by decide +kernel
theorem dX11_staysUnseen_17 : decode YX11_staysUnseen.2.1 17 = .ok (.iload_n 3, 1) := by decide +kernel
theorem dX11_staysUnseen_18 : decode YX11_staysUnseen.2.1 18 = .ok (.invokevirtual 402, 3) := by decide +kernel
theorem dX11_staysUnseen_21 : decode YX11_staysUnseen.2.1 21 = .ok (.iconst 0, 1) := by decide +kernel
theorem dX11_staysUnseen_22 : decode YX11_staysUnseen.2.1 22 = .ok (.istore 4, 2) := by decide +kernel
theorem dX11_staysUnseen_24 : decode YX11_staysUnseen.2.1 24 = .ok (.iload 4, 2) := by decide +kernel
theorem dX11_staysUnseen_26 : decode YX11_staysUnseen.2.1 26 = .ok (.bipush 20, 2) := by decide +kernel
theorem dX11_staysUnseen_28 : decode YX11_staysUnseen.2.1 28 = .ok (.if_icmp .ge 64, 3) := by decide +kernel
theorem dX11_staysUnseen_31 : decode YX11_staysUnseen.2.1 31 = .ok (.aload_n 0, 1) := by decide +kernel
theorem dX11_staysUnseen_32 : decode YX11_staysUnseen.2.1 32 = .ok (.getfield 42, 3) := by decide +kernel
theorem dX11_staysUnseen_35 : decode YX11_staysUnseen.2.1 35 = .ok (.aload_n 0, 1) := by decide +kernel
theorem dX11_staysUnseen_36 : decode YX11_staysUnseen.2.1 36 = .ok (.getfield 28, 3) := by decide +kernel
theorem dX11_staysUnseen_39 : decode YX11_staysUnseen.2.1 39 = .ok (.iconst 1, 1) := by decide +kernel
theorem dX11_staysUnseen_40 : decode YX11_staysUnseen.2.1 40 = .ok (.invokevirtual 258, 3) := by decide +kernel
theorem dX11_staysUnseen_43 : decode YX11_staysUnseen.2.1 43 = .ok (.aload_n 0, 1) := by decide +kernel
theorem dX11_staysUnseen_44 : decode YX11_staysUnseen.2.1 44 = .ok (.getfield 42, 3) := by decide +kernel
theorem dX11_staysUnseen_47 : decode YX11_staysUnseen.2.1 47 = .ok (.iload_n 1, 1) := by decide +kernel
theorem dX11_staysUnseen_48 : decode YX11_staysUnseen.2.1 48 = .ok (.invokevirtual 166, 3) := by decide +kernel
theorem dX11_staysUnseen_51 : decode YX11_staysUnseen.2.1 51 = .ok (.istore 5, 2) := by decide +kernel
theorem dX11_staysUnseen_53 : decode YX11_staysUnseen.2.1 53 = .ok (.aload_n 0, 1) := by decide +kernel
theorem dX11_staysUnseen_54 : decode YX11_staysUnseen.2.1 54 = .ok (.getfield 42, 3) := by decide +kernel
theorem dX11_staysUnseen_57 : decode YX11_staysUnseen.2.1 57 = .ok (.iload_n 2, 1) := by decide +kernel
theorem dX11_staysUnseen_58 : decode YX11_staysUnseen.2.1 58 = .ok (.invokevirtual 166, 3) := by decide +kernel
theorem dX11_staysUnseen_61 : decode YX11_staysUnseen.2.1 61 = .ok (.istore 6, 2) := by decide +kernel
theorem dX11_staysUnseen_63 : decode YX11_staysUnseen.2.1 63 = .ok (.iload 5, 2) := by decide +kernel
theorem dX11_staysUnseen_65 : decode YX11_staysUnseen.2.1 65 = .ok (.iload 6, 2) := by decide +kernel
theorem dX11_staysUnseen_67 : decode YX11_staysUnseen.2.1 67 = .ok (.if_icmp .eq 17, 3) := by decide +kernel
theorem dX11_staysUnseen_70 : decode YX11_staysUnseen.2.1 70 = .ok (.aload_n 0, 1) := by decide +kernel
theorem dX11_staysUnseen_71 : decode YX11_staysUnseen.2.1 71 = .ok (.getfield 28, 3) := by decide +kernel
theorem dX11_staysUnseen_74 : decode YX11_staysUnseen.2.1 74 = .ok (.iload 5, 2) := by decide +kernel
theorem dX11_staysUnseen_76 : decode YX11_staysUnseen.2.1 76 = .ok (.iload 6, 2) := by decide +kernel
theorem dX11_staysUnseen_78 : decode YX11_staysUnseen.2.1 78 = .ok (.invokevirtual 288, 3) := by decide +kernel
theorem dX11_staysUnseen_81 : decode YX11_staysUnseen.2.1 81 = .ok (.ifCond .eq 5, 3) := by decide +kernel
theorem dX11_staysUnseen_84 : decode YX11_staysUnseen.2.1 84 = .ok (.iconst 0, 1) := by decide +kernel
theorem dX11_staysUnseen_85 : decode YX11_staysUnseen.2.1 85 = .ok (.ireturn, 1) := by decide +kernel
theorem dX11_staysUnseen_86 : decode YX11_staysUnseen.2.1 86 = .ok (.iinc 4 1, 3) := by decide +kernel
theorem dX11_staysUnseen_89 : decode YX11_staysUnseen.2.1 89 = .ok (.goto (-65), 3) := by decide +kernel
theorem dX11_staysUnseen_92 : decode YX11_staysUnseen.2.1 92 = .ok (.iconst 1, 1) := by decide +kernel
theorem dX11_staysUnseen_93 : decode YX11_staysUnseen.2.1 93 = .ok (.ireturn, 1) := by decide +kernel
theorem dX11_told_0 : decode YX11_told.2.1 0 = .ok (.aload_n 0, 1) := by decide +kernel
theorem dX11_told_1 : decode YX11_told.2.1 1 = .ok (.getfield 71, 3) := by decide +kernel
theorem dX11_told_4 : decode YX11_told.2.1 4 = .ok (.iload_n 1, 1) := by decide +kernel
theorem dX11_told_5 : decode YX11_told.2.1 5 = .ok (.invokevirtual 359, 3) := by decide +kernel
theorem dX11_told_8 : decode YX11_told.2.1 8 = .ok (.ireturn, 1) := by decide +kernel
theorem dX11_town_0 : decode YX11_town.2.1 0 = .ok (.aload_n 0, 1) := by decide +kernel
theorem dX11_town_1 : decode YX11_town.2.1 1 = .ok (.getfield 21, 3) := by decide +kernel
theorem dX11_town_4 : decode YX11_town.2.1 4 = .ok (.sipush 900, 3) := by decide +kernel
theorem dX11_town_7 : decode YX11_town.2.1 7 = .ok (.invokevirtual 129, 3) := by decide +kernel
theorem dX11_town_10 : decode YX11_town.2.1 10 = .ok (.aload_n 0, 1) := by decide +kernel
theorem dX11_town_11 : decode YX11_town.2.1 11 = .ok (.getfield 32, 3) := by decide +kernel
theorem dX11_town_14 : decode YX11_town.2.1 14 = .ok (.aload_n 0, 1) := by decide +kernel
theorem dX11_town_15 : decode YX11_town.2.1 15 = .ok (.getfield 21, 3) := by decide +kernel
theorem dX11_town_18 : decode YX11_town.2.1 18 = .ok (.aload_n 0, 1) := by decide +kernel
theorem dX11_town_19 : decode YX11_town.2.1 19 = .ok (.getfield 42, 3) := by decide +kernel
theorem dX11_town_22 : decode YX11_town.2.1 22 = .ok (.invokevirtual 132, 3) := by decide +kernel
theorem dX11_town_25 : decode YX11_town.2.1 25 = .ok (.istore_n 1, 1) := by decide +kernel
theorem dX11_town_26 : decode YX11_town.2.1 26 = .ok (.aload_n 0, 1) := by decide +kernel
theorem dX11_town_27 : decode YX11_town.2.1 27 = .ok (.aload_n 0, 1) := by decide +kernel
theorem dX11_town_28 : decode YX11_town.2.1 28 = .ok (.getfield 21, 3) := by decide +kernel
theorem dX11_town_31 : decode YX11_town.2.1 31 = .ok (.invokevirtual 136, 3) := by decide +kernel
theorem dX11_town_34 : decode YX11_town.2.1 34 = .ok (.putfield 139, 3) := by decide +kernel
theorem dX11_town_37 : decode YX11_town.2.1 37 = .ok (.aload_n 0, 1) := by decide +kernel
theorem dX11_town_38 : decode YX11_town.2.1 38 = .ok (.getfield 10, 3) := by decide +kernel
theorem dX11_town_41 : decode YX11_town.2.1 41 = .ok (.invokevirtual 141, 3) := by decide +kernel
theorem dX11_town_44 : decode YX11_town.2.1 44 = .ok (.aload_n 0, 1) := by decide +kernel
theorem dX11_town_45 : decode YX11_town.2.1 45 = .ok (.getfield 139, 3) := by decide +kernel
theorem dX11_town_48 : decode YX11_town.2.1 48 = .ok (.ifCond .eq 13, 3) := by decide +kernel
theorem dX11_town_51 : decode YX11_town.2.1 51 = .ok (.iconst (-1), 1) := by decide +kernel
theorem dX11_town_52 : decode YX11_town.2.1 52 = .ok (.aload_n 0, 1) := by decide +kernel
theorem dX11_town_53 : decode YX11_town.2.1 53 = .ok (.getfield 21, 3) := by decide +kernel
theorem dX11_town_56 : decode YX11_town.2.1 56 = .ok (.invokevirtual 144, 3) := by decide +kernel
theorem dX11_town_59 : decode YX11_town.2.1 59 = .ok (.isub, 1) := by decide +kernel
theorem dX11_town_60 : decode YX11_town.2.1 60 = .ok (.ireturn, 1) := by decide +kernel
theorem dX11_town_61 : decode YX11_town.2.1 61 = .ok (.aload_n 0, 1) := by decide +kernel
theorem dX11_town_62 : decode YX11_town.2.1 62 = .ok (.getfield 28, 3) := by decide +kernel
theorem dX11_town_65 : decode YX11_town.2.1 65 = .ok (.aload_n 0, 1) := by decide +kernel
theorem dX11_town_66 : decode YX11_town.2.1 66 = .ok (.getfield 32, 3) := by decide +kernel
theorem dX11_town_69 : decode YX11_town.2.1 69 = .ok (.invokevirtual 147, 3) := by decide +kernel
theorem dX11_town_72 : decode YX11_town.2.1 72 = .ok (.aload_n 0, 1) := by decide +kernel
theorem dX11_town_73 : decode YX11_town.2.1 73 = .ok (.getfield 38, 3) := by decide +kernel
theorem dX11_town_76 : decode YX11_town.2.1 76 = .ok (.aload_n 0, 1) := by decide +kernel
theorem dX11_town_77 : decode YX11_town.2.1 77 = .ok (.getfield 42, 3) := by decide +kernel
theorem dX11_town_80 : decode YX11_town.2.1 80 = .ok (.invokevirtual 151, 3) := by decide +kernel
theorem dX11_town_83 : decode YX11_town.2.1 83 = .ok (.aload_n 0, 1) := by decide +kernel
theorem dX11_town_84 : decode YX11_town.2.1 84 = .ok (.getfield 48, 3) := by decide +kernel
theorem dX11_town_87 : decode YX11_town.2.1 87 = .ok (.invokevirtual 154, 3) := by decide +kernel
theorem dX11_town_90 : decode YX11_town.2.1 90 = .ok (.aload_n 0, 1) := by decide +kernel
theorem dX11_town_91 : decode YX11_town.2.1 91 = .ok (.getfield 58, 3) := by decide +kernel
theorem dX11_town_94 : decode YX11_town.2.1 94 = .ok (.invokevirtual 155, 3) := by decide +kernel
theorem dX11_town_97 : decode YX11_town.2.1 97 = .ok (.iload_n 1, 1) := by decide +kernel
theorem dX11_town_98 : decode YX11_town.2.1 98 = .ok (.ireturn, 1) := by decide +kernel
theorem dX11_was_0 : decode YX11_was.2.1 0 = .ok (.aload_n 0, 1) := by decide +kernel
theorem dX11_was_1 : decode YX11_was.2.1 1 = .ok (.getfield 28, 3) := by decide +kernel
theorem dX11_was_4 : decode YX11_was.2.1 4 = .ok (.iload_n 1, 1) := by decide +kernel
theorem dX11_was_5 : decode YX11_was.2.1 5 = .ok (.invokevirtual 156, 3) := by decide +kernel
theorem dX11_was_8 : decode YX11_was.2.1 8 = .ok (.ifCond .eq 15, 3) := by decide +kernel
theorem dX11_was_11 : decode YX11_was.2.1 11 = .ok (.aload_n 0, 1) := by decide +kernel
theorem dX11_was_12 : decode YX11_was.2.1 12 = .ok (.getfield 38, 3) := by decide +kernel
theorem dX11_was_15 : decode YX11_was.2.1 15 = .ok (.iload_n 1, 1) := by decide +kernel
theorem dX11_was_16 : decode YX11_was.2.1 16 = .ok (.iload_n 2, 1) := by decide +kernel
theorem dX11_was_17 : decode YX11_was.2.1 17 = .ok (.invokevirtual 188, 3) := by decide +kernel
theorem dX11_was_20 : decode YX11_was.2.1 20 = .ok (.goto 4, 3) := by decide +kernel
theorem dX11_was_23 : decode YX11_was.2.1 23 = .ok (.iconst (-1), 1) := by decide +kernel
theorem dX11_was_24 : decode YX11_was.2.1 24 = .ok (.ireturn, 1) := by decide +kernel
theorem dX11_whoFitsTape_0 : decode YX11_whoFitsTape.2.1 0 = .ok (.aload_n 0, 1) := by decide +kernel
theorem dX11_whoFitsTape_1 : decode YX11_whoFitsTape.2.1 1 = .ok (.getfield 10, 3) := by decide +kernel
theorem dX11_whoFitsTape_4 : decode YX11_whoFitsTape.2.1 4 = .ok (.invokevirtual 122, 3) := by decide +kernel
theorem dX11_whoFitsTape_7 : decode YX11_whoFitsTape.2.1 7 = .ok (.istore_n 1, 1) := by decide +kernel
theorem dX11_whoFitsTape_8 : decode YX11_whoFitsTape.2.1 8 = .ok (.iload_n 1, 1) := by decide +kernel
theorem dX11_whoFitsTape_9 : decode YX11_whoFitsTape.2.1 9 = .ok (.iconst 1, 1) := by decide +kernel
theorem dX11_whoFitsTape_10 : decode YX11_whoFitsTape.2.1 10 = .ok (.if_icmp .lt 9, 3) := by decide +kernel
theorem dX11_whoFitsTape_13 : decode YX11_whoFitsTape.2.1 13 = .ok (.iload_n 1, 1) := by decide +kernel
theorem dX11_whoFitsTape_14 : decode YX11_whoFitsTape.2.1 14 = .ok (.bipush 6, 2) := by decide +kernel
theorem dX11_whoFitsTape_16 : decode YX11_whoFitsTape.2.1 16 = .ok (.if_icmp .le 5, 3) := by decide +kernel
theorem dX11_whoFitsTape_19 : decode YX11_whoFitsTape.2.1 19 = .ok (.iconst (-1), 1) := by decide +kernel
theorem dX11_whoFitsTape_20 : decode YX11_whoFitsTape.2.1 20 = .ok (.ireturn, 1) := by decide +kernel
theorem dX11_whoFitsTape_21 : decode YX11_whoFitsTape.2.1 21 = .ok (.iconst 1, 1) := by decide +kernel
theorem dX11_whoFitsTape_22 : decode YX11_whoFitsTape.2.1 22 = .ok (.aload_n 0, 1) := by decide +kernel
theorem dX11_whoFitsTape_23 : decode YX11_whoFitsTape.2.1 23 = .ok (.getfield 28, 3) := by decide +kernel
theorem dX11_whoFitsTape_26 : decode YX11_whoFitsTape.2.1 26 = .ok (.invokevirtual 308, 3) := by decide +kernel
theorem dX11_whoFitsTape_29 : decode YX11_whoFitsTape.2.1 29 = .ok (.ishl, 1) := by decide +kernel
theorem dX11_whoFitsTape_30 : decode YX11_whoFitsTape.2.1 30 = .ok (.iconst 1, 1) := by decide +kernel
theorem dX11_whoFitsTape_31 : decode YX11_whoFitsTape.2.1 31 = .ok (.isub, 1) := by decide +kernel
theorem dX11_whoFitsTape_32 : decode YX11_whoFitsTape.2.1 32 = .ok (.istore_n 2, 1) := by decide +kernel
theorem dX11_whoFitsTape_33 : decode YX11_whoFitsTape.2.1 33 = .ok (.iconst 0, 1) := by decide +kernel
theorem dX11_whoFitsTape_34 : decode YX11_whoFitsTape.2.1 34 = .ok (.istore_n 3, 1) := by decide +kernel
theorem dX11_whoFitsTape_35 : decode YX11_whoFitsTape.2.1 35 = .ok (.iload_n 3, 1) := by decide +kernel
theorem dX11_whoFitsTape_36 : decode YX11_whoFitsTape.2.1 36 = .ok (.iload_n 1, 1) := by decide +kernel
theorem dX11_whoFitsTape_37 : decode YX11_whoFitsTape.2.1 37 = .ok (.if_icmp .ge 62, 3) := by decide +kernel
theorem dX11_whoFitsTape_40 : decode YX11_whoFitsTape.2.1 40 = .ok (.aload_n 0, 1) := by decide +kernel
theorem dX11_whoFitsTape_41 : decode YX11_whoFitsTape.2.1 41 = .ok (.getfield 10, 3) := by decide +kernel
theorem dX11_whoFitsTape_44 : decode YX11_whoFitsTape.2.1 44 = .ok (.iload_n 3, 1) := by decide +kernel
theorem dX11_whoFitsTape_45 : decode YX11_whoFitsTape.2.1 45 = .ok (.invokevirtual 406, 3) := by decide +kernel
theorem dX11_whoFitsTape_48 : decode YX11_whoFitsTape.2.1 48 = .ok (.istore 4, 2) := by decide +kernel
theorem dX11_whoFitsTape_50 : decode YX11_whoFitsTape.2.1 50 = .ok (.iload 4, 2) := by decide +kernel
theorem dX11_whoFitsTape_52 : decode YX11_whoFitsTape.2.1 52 = .ok (.sipush 255, 3) := by decide +kernel
theorem dX11_whoFitsTape_55 : decode YX11_whoFitsTape.2.1 55 = .ok (.if_icmp .eq 17, 3) := by decide +kernel
theorem dX11_whoFitsTape_58 : decode YX11_whoFitsTape.2.1 58 = .ok (.aload_n 0, 1) := by decide +kernel
theorem dX11_whoFitsTape_59 : decode YX11_whoFitsTape.2.1 59 = .ok (.getfield 28, 3) := by decide +kernel
theorem dX11_whoFitsTape_62 : decode YX11_whoFitsTape.2.1 62 = .ok (.iload 4, 2) := by decide +kernel
theorem dX11_whoFitsTape_64 : decode YX11_whoFitsTape.2.1 64 = .ok (.invokevirtual 192, 3) := by decide +kernel
theorem dX11_whoFitsTape_67 : decode YX11_whoFitsTape.2.1 67 = .ok (.ifCond .ne 5, 3) := by decide +kernel
theorem dX11_whoFitsTape_70 : decode YX11_whoFitsTape.2.1 70 = .ok (.iconst (-1), 1) := by decide +kernel
theorem dX11_whoFitsTape_71 : decode YX11_whoFitsTape.2.1 71 = .ok (.ireturn, 1) := by decide +kernel
theorem dX11_whoFitsTape_72 : decode YX11_whoFitsTape.2.1 72 = .ok (.iload 4, 2) := by decide +kernel
theorem dX11_whoFitsTape_74 : decode YX11_whoFitsTape.2.1 74 = .ok (.sipush 255, 3) := by decide +kernel
theorem dX11_whoFitsTape_77 : decode YX11_whoFitsTape.2.1 77 = .ok (.if_icmp .eq 16, 3) := by decide +kernel
theorem dX11_whoFitsTape_80 : decode YX11_whoFitsTape.2.1 80 = .ok (.iload_n 2, 1) := by decide +kernel
theorem dX11_whoFitsTape_81 : decode YX11_whoFitsTape.2.1 81 = .ok (.aload_n 0, 1) := by decide +kernel
theorem dX11_whoFitsTape_82 : decode YX11_whoFitsTape.2.1 82 = .ok (.getfield 38, 3) := by decide +kernel
theorem dX11_whoFitsTape_85 : decode YX11_whoFitsTape.2.1 85 = .ok (.iload 4, 2) := by decide +kernel
theorem dX11_whoFitsTape_87 : decode YX11_whoFitsTape.2.1 87 = .ok (.iload_n 3, 1) := by decide +kernel
theorem dX11_whoFitsTape_88 : decode YX11_whoFitsTape.2.1 88 = .ok (.invokevirtual 198, 3) := by decide +kernel
theorem dX11_whoFitsTape_91 : decode YX11_whoFitsTape.2.1 91 = .ok (.iand, 1) := by decide +kernel
theorem dX11_whoFitsTape_92 : decode YX11_whoFitsTape.2.1 92 = .ok (.istore_n 2, 1) := by decide +kernel
theorem dX11_whoFitsTape_93 : decode YX11_whoFitsTape.2.1 93 = .ok (.iinc 3 1, 3) := by decide +kernel
theorem dX11_whoFitsTape_96 : decode YX11_whoFitsTape.2.1 96 = .ok (.goto (-61), 3) := by decide +kernel
theorem dX11_whoFitsTape_99 : decode YX11_whoFitsTape.2.1 99 = .ok (.iload_n 2, 1) := by decide +kernel
theorem dX11_whoFitsTape_100 : decode YX11_whoFitsTape.2.1 100 = .ok (.ireturn, 1) := by decide +kernel
theorem dX12_ask_0 : decode YX12_ask.2.1 0 = .ok (.aload_n 0, 1) := by decide +kernel
theorem dX12_ask_1 : decode YX12_ask.2.1 1 = .ok (.iconst 0, 1) := by decide +kernel
theorem dX12_ask_2 : decode YX12_ask.2.1 2 = .ok (.putfield 1, 3) := by decide +kernel
theorem dX12_ask_5 : decode YX12_ask.2.1 5 = .ok (.aload_n 0, 1) := by decide +kernel
theorem dX12_ask_6 : decode YX12_ask.2.1 6 = .ok (.getfield 355, 3) := by decide +kernel
theorem dX12_ask_9 : decode YX12_ask.2.1 9 = .ok (.ifCond .eq 10, 3) := by decide +kernel
theorem dX12_ask_12 : decode YX12_ask.2.1 12 = .ok (.aload_n 0, 1) := by decide +kernel
theorem dX12_ask_13 : decode YX12_ask.2.1 13 = .ok (.getfield 358, 3) := by decide +kernel
theorem dX12_ask_16 : decode YX12_ask.2.1 16 = .ok (.goto 4, 3) := by decide +kernel
theorem dX12_ask_19 : decode YX12_ask.2.1 19 = .ok (.iconst (-1), 1) := by decide +kernel
theorem dX12_ask_20 : decode YX12_ask.2.1 20 = .ok (.ireturn, 1) := by decide +kernel
theorem dX12_back_0 : decode YX12_back.2.1 0 = .ok (.iconst 0, 1) := by decide +kernel
theorem dX12_back_1 : decode YX12_back.2.1 1 = .ok (.istore_n 1, 1) := by decide +kernel
theorem dX12_back_2 : decode YX12_back.2.1 2 = .ok (.iload_n 1, 1) := by decide +kernel
theorem dX12_back_3 : decode YX12_back.2.1 3 = .ok (.bipush 127, 2) := by decide +kernel
theorem dX12_back_5 : decode YX12_back.2.1 5 = .ok (.if_icmp .ge 24, 3) := by decide +kernel
theorem dX12_back_8 : decode YX12_back.2.1 8 = .ok (.aload_n 0, 1) := by decide +kernel
theorem dX12_back_9 : decode YX12_back.2.1 9 = .ok (.getfield 33, 3) := by decide +kernel
theorem dX12_back_12 : decode YX12_back.2.1 12 = .ok (.bipush 89, 2) := by decide +kernel
theorem dX12_back_14 : decode YX12_back.2.1 14 = .ok (.iload_n 1, 1) := by decide +kernel
theorem dX12_back_15 : decode YX12_back.2.1 15 = .ok (.iadd, 1) := by decide +kernel
theorem dX12_back_16 : decode YX12_back.2.1 16 = .ok (.aload_n 0, 1) := by decide +kernel
theorem dX12_back_17 : decode YX12_back.2.1 17 = .ok (.getfield 59, 3) := by decide +kernel
theorem dX12_back_20 : decode YX12_back.2.1 20 = .ok (.iload_n 1, 1) := by decide +kernel
theorem dX12_back_21 : decode YX12_back.2.1 21 = .ok (.iaload, 1) := by decide +kernel
theorem dX12_back_22 : decode YX12_back.2.1 22 = .ok (.iastore, 1) := by decide +kernel
theorem dX12_back_23 : decode YX12_back.2.1 23 = .ok (.iinc 1 1, 3) := by decide +kernel
theorem dX12_back_26 : decode YX12_back.2.1 26 = .ok (.goto (-24), 3) := by decide +kernel
theorem dX12_back_29 : decode YX12_back.2.1 29 = .ok (.return_, 1) := by decide +kernel
theorem dX12_bad_0 : decode YX12_bad.2.1 0 = .ok (.aload_n 0, 1) := by decide +kernel
theorem dX12_bad_1 : decode YX12_bad.2.1 1 = .ok (.iload_n 1, 1) := by decide +kernel
theorem dX12_bad_2 : decode YX12_bad.2.1 2 = .ok (.putfield 173, 3) := by decide +kernel
theorem dX12_bad_5 : decode YX12_bad.2.1 5 = .ok (.aload_n 0, 1) := by decide +kernel
theorem dX12_bad_6 : decode YX12_bad.2.1 6 = .ok (.aload_n 0, 1) := by decide +kernel
theorem dX12_bad_7 : decode YX12_bad.2.1 7 = .ok (.getfield 150, 3) := by decide +kernel
theorem dX12_bad_10 : decode YX12_bad.2.1 10 = .ok (.putfield 176, 3) := by decide +kernel
theorem dX12_bad_13 : decode YX12_bad.2.1 13 = .ok (.iconst 0, 1) := by decide +kernel
theorem dX12_bad_14 : decode YX12_bad.2.1 14 = .ok (.ireturn, 1) := by decide +kernel
theorem dX12_bar_0 : decode YX12_bar.2.1 0 = .ok (.aload_n 0, 1) := by decide +kernel
theorem dX12_bar_1 : decode YX12_bar.2.1 1 = .ok (.iconst 0, 1) := by decide +kernel
theorem dX12_bar_2 : decode YX12_bar.2.1 2 = .ok (.putfield 1, 3) := by decide +kernel
theorem dX12_bar_5 : decode YX12_bar.2.1 5 = .ok (.aload_n 0, 1) := by decide +kernel
theorem dX12_bar_6 : decode YX12_bar.2.1 6 = .ok (.iload_n 1, 1) := by decide +kernel
theorem dX12_bar_7 : decode YX12_bar.2.1 7 = .ok (.invokevirtual 283, 3) := by decide +kernel
theorem dX12_bar_10 : decode YX12_bar.2.1 10 = .ok (.ifCond .eq 25, 3) := by decide +kernel
theorem dX12_bar_13 : decode YX12_bar.2.1 13 = .ok (.aload_n 0, 1) := by decide +kernel
theorem dX12_bar_14 : decode YX12_bar.2.1 14 = .ok (.iload_n 2, 1) := by decide +kernel
theorem dX12_bar_15 : decode YX12_bar.2.1 15 = .ok (.invokevirtual 283, 3) := by decide +kernel
theorem dX12_bar_18 : decode YX12_bar.2.1 18 = .ok (.ifCond .eq 17, 3) := by decide +kernel
theorem dX12_bar_21 : decode YX12_bar.2.1 21 = .ok (.iload_n 1, 1) := by decide +kernel
theorem dX12_bar_22 : decode YX12_bar.2.1 22 = .ok (.iload_n 2, 1) := by decide +kernel
theorem dX12_bar_23 : decode YX12_bar.2.1 23 = .ok (.if_icmp .eq 12, 3) := by decide +kernel
theorem dX12_bar_26 : decode YX12_bar.2.1 26 = .ok (.aload_n 0, 1) := by decide +kernel
theorem dX12_bar_27 : decode YX12_bar.2.1 27 = .ok (.iload_n 1, 1) := by decide +kernel
theorem dX12_bar_28 : decode YX12_bar.2.1 28 = .ok (.iload_n 2, 1) := by decide +kernel
theorem dX12_bar_29 : decode YX12_bar.2.1 29 = .ok (.invokevirtual 259, 3) := by decide +kernel
theorem dX12_bar_32 : decode YX12_bar.2.1 32 = .ok (.ifCond .eq 5, 3) := by decide +kernel
theorem dX12_bar_35 : decode YX12_bar.2.1 35 = .ok (.iconst (-1), 1) := by decide +kernel
theorem dX12_bar_36 : decode YX12_bar.2.1 36 = .ok (.ireturn, 1) := by decide +kernel
theorem dX12_bar_37 : decode YX12_bar.2.1 37 = .ok (.iconst (-1), 1) := by decide +kernel
theorem dX12_bar_38 : decode YX12_bar.2.1 38 = .ok (.istore_n 3, 1) := by decide +kernel
theorem dX12_bar_39 : decode YX12_bar.2.1 39 = .ok (.iconst 0, 1) := by decide +kernel
theorem dX12_bar_40 : decode YX12_bar.2.1 40 = .ok (.istore 4, 2) := by decide +kernel
theorem dX12_bar_42 : decode YX12_bar.2.1 42 = .ok (.iload 4, 2) := by decide +kernel
theorem dX12_bar_44 : decode YX12_bar.2.1 44 = .ok (.iconst 1, 1) := by decide +kernel
theorem dX12_bar_45 : decode YX12_bar.2.1 45 = .ok (.aload_n 0, 1) := by decide +kernel
theorem dX12_bar_46 : decode YX12_bar.2.1 46 = .ok (.getfield 33, 3) := by decide +kernel
theorem dX12_bar_49 : decode YX12_bar.2.1 49 = .ok (.iconst 0, 1) := by decide +kernel
theorem dX12_bar_50 : decode YX12_bar.2.1 50 = .ok (.iaload, 1) := by decide +kernel
theorem dX12_bar_51 : decode YX12_bar.2.1 51 = .ok (.ishl, 1) := by decide +kernel
theorem dX12_bar_52 : decode YX12_bar.2.1 52 = .ok (.if_icmp .ge 57, 3) := by decide +kernel
theorem dX12_bar_55 : decode YX12_bar.2.1 55 = .ok (.iload 4, 2) := by decide +kernel
theorem dX12_bar_57 : decode YX12_bar.2.1 57 = .ok (.iload_n 1, 1) := by decide +kernel
theorem dX12_bar_58 : decode YX12_bar.2.1 58 = .ok (.invokestatic 235, 3) := by decide +kernel
theorem dX12_bar_61 : decode YX12_bar.2.1 61 = .ok (.ifCond .ne 42, 3) := by decide +kernel
theorem dX12_bar_64 : decode YX12_bar.2.1 64 = .ok (.iload 4, 2) := by decide +kernel
theorem dX12_bar_66 : decode YX12_bar.2.1 66 = .ok (.iload_n 2, 1) := by decide +kernel
theorem dX12_bar_67 : decode YX12_bar.2.1 67 = .ok (.invokestatic 235, 3) := by decide +kernel
theorem dX12_bar_70 : decode YX12_bar.2.1 70 = .ok (.ifCond .ne 33, 3) := by decide +kernel
theorem dX12_bar_73 : decode YX12_bar.2.1 73 = .ok (.iload_n 3, 1) := by decide +kernel
theorem dX12_bar_74 : decode YX12_bar.2.1 74 = .ok (.ifCond .lt 15, 3) := by decide +kernel
theorem dX12_bar_77 : decode YX12_bar.2.1 77 = .ok (.iload 4, 2) := by decide +kernel
theorem dX12_bar_79 : decode YX12_bar.2.1 79 = .ok (.invokestatic 334, 3) := by decide +kernel
theorem dX12_bar_82 : decode YX12_bar.2.1 82 = .ok (.iload_n 3, 1) := by decide +kernel
theorem dX12_bar_83 : decode YX12_bar.2.1 83 = .ok (.invokestatic 334, 3) := by decide +kernel
theorem dX12_bar_86 : decode YX12_bar.2.1 86 = .ok (.if_icmp .ge 17, 3) := by decide +kernel
theorem dX12_bar_89 : decode YX12_bar.2.1 89 = .ok (.aload_n 0, 1) := by decide +kernel
theorem dX12_bar_90 : decode YX12_bar.2.1 90 = .ok (.iload_n 1, 1) := by decide +kernel
theorem dX12_bar_91 : decode YX12_bar.2.1 91 = .ok (.iload_n 2, 1) := by decide +kernel
theorem dX12_bar_92 : decode YX12_bar.2.1 92 = .ok (.iload 4, 2) := by decide +kernel
theorem dX12_bar_94 : decode YX12_bar.2.1 94 = .ok (.invokevirtual 364, 3) := by decide +kernel
theorem dX12_bar_97 : decode YX12_bar.2.1 97 = .ok (.ifCond .ne 6, 3) := by decide +kernel
theorem dX12_bar_100 : decode YX12_bar.2.1 100 = .ok (.iload 4, 2) := by decide +kernel
theorem dX12_bar_102 : decode YX12_bar.2.1 102 = .ok (.istore_n 3, 1) := by decide +kernel
theorem dX12_bar_103 : decode YX12_bar.2.1 103 = .ok (.iinc 4 1, 3) := by decide +kernel
theorem dX12_bar_106 : decode YX12_bar.2.1 106 = .ok (.goto (-64), 3) := by decide +kernel
theorem dX12_bar_109 : decode YX12_bar.2.1 109 = .ok (.aload_n 0, 1) := by decide +kernel
theorem dX12_bar_110 : decode YX12_bar.2.1 110 = .ok (.iconst 1, 1) := by decide +kernel
theorem dX12_bar_111 : decode YX12_bar.2.1 111 = .ok (.putfield 367, 3) := by decide +kernel
theorem dX12_bar_114 : decode YX12_bar.2.1 114 = .ok (.aload_n 0, 1) := by decide +kernel
theorem dX12_bar_115 : decode YX12_bar.2.1 115 = .ok (.iload_n 3, 1) := by decide +kernel
theorem dX12_bar_116 : decode YX12_bar.2.1 116 = .ok (.putfield 370, 3) := by decide +kernel
theorem dX12_bar_119 : decode YX12_bar.2.1 119 = .ok (.iload_n 3, 1) := by decide +kernel
theorem dX12_bar_120 : decode YX12_bar.2.1 120 = .ok (.invokestatic 334, 3) := by decide +kernel
theorem dX12_bar_123 : decode YX12_bar.2.1 123 = .ok (.ireturn, 1) := by decide +kernel
theorem dX12_barred_0 : decode YX12_barred.2.1 0 = .ok (.aload_n 0, 1) := by decide +kernel
theorem dX12_barred_1 : decode YX12_barred.2.1 1 = .ok (.iconst 0, 1) := by decide +kernel
theorem dX12_barred_2 : decode YX12_barred.2.1 2 = .ok (.putfield 1, 3) := by decide +kernel
theorem dX12_barred_5 : decode YX12_barred.2.1 5 = .ok (.aload_n 0, 1) := by decide +kernel
theorem dX12_barred_6 : decode YX12_barred.2.1 6 = .ok (.getfield 367, 3) := by decide +kernel
theorem dX12_barred_9 : decode YX12_barred.2.1 9 = .ok (.ifCond .eq 10, 3) := by decide +kernel
theorem dX12_barred_12 : decode YX12_barred.2.1 12 = .ok (.aload_n 0, 1) := by decide +kernel
theorem dX12_barred_13 : decode YX12_barred.2.1 13 = .ok (.getfield 370, 3) := by decide +kernel
theorem dX12_barred_16 : decode YX12_barred.2.1 16 = .ok (.goto 4, 3) := by decide +kernel
theorem dX12_barred_19 : decode YX12_barred.2.1 19 = .ok (.iconst (-1), 1) := by decide +kernel
theorem dX12_barred_20 : decode YX12_barred.2.1 20 = .ok (.ireturn, 1) := by decide +kernel
theorem dX12_behind_0 : decode YX12_behind.2.1 0 = .ok (.aload_n 0, 1) := by decide +kernel
theorem dX12_behind_1 : decode YX12_behind.2.1 1 = .ok (.invokevirtual 450, 3) := by decide +kernel
theorem dX12_behind_4 : decode YX12_behind.2.1 4 = .ok (.aload_n 0, 1) := by decide +kernel
theorem dX12_behind_5 : decode YX12_behind.2.1 5 = .ok (.ldc2_w 121, 3) := by decide +kernel
theorem dX12_behind_8 : decode YX12_behind.2.1 8 = .ok (.invokevirtual 210, 3) := by decide +kernel
theorem dX12_behind_11 : decode YX12_behind.2.1 11 = .ok (.ifCond .ne 13, 3) := by decide +kernel
theorem dX12_behind_14 : decode YX12_behind.2.1 14 = .ok (.aload_n 0, 1) := by decide +kernel
theorem dX12_behind_15 : decode YX12_behind.2.1 15 = .ok (.ldc2_w 119, 3) := by decide +kernel
theorem dX12_behind_18 : decode YX12_behind.2.1 18 = .ok (.invokevirtual 210, 3) := by decide +kernel
theorem dX12_behind_21 : decode YX12_behind.2.1 21 = .ok (.ifCond .eq 71, 3) := by decide +kernel
theorem dX12_behind_24 : decode YX12_behind.2.1 24 = .ok (.aload_n 0, 1) := by decide +kernel
theorem dX12_behind_25 : decode YX12_behind.2.1 25 = .ok (.aload_n 0, 1) := by decide +kernel
theorem dX12_behind_26 : decode YX12_behind.2.1 26 = .ok (.ldc2_w 121, 3) := by decide +kernel
theorem dX12_behind_29 : decode YX12_behind.2.1 29 = .ok (.invokevirtual 210, 3) := by decide +kernel
theorem dX12_behind_32 : decode YX12_behind.2.1 32 = .ok (.ifCond .eq 8, 3) := by decide +kernel
theorem dX12_behind_35 : decode YX12_behind.2.1 35 = .ok (.bipush 21, 2) := by decide +kernel
theorem dX12_behind_37 : decode YX12_behind.2.1 37 = .ok (.goto 5, 3) := by decide +kernel
theorem dX12_behind_40 : decode YX12_behind.2.1 40 = .ok (.bipush 22, 2) := by decide +kernel
theorem dX12_behind_42 : decode YX12_behind.2.1 42 = .ok (.invokevirtual 453, 3) := by decide +kernel
theorem dX12_behind_45 : decode YX12_behind.2.1 45 = .ok (.aload_n 0, 1) := by decide +kernel
theorem dX12_behind_46 : decode YX12_behind.2.1 46 = .ok (.getfield 83, 3) := by decide +kernel
theorem dX12_behind_49 : decode YX12_behind.2.1 49 = .ok (.aload_n 0, 1) := by decide +kernel
theorem dX12_behind_50 : decode YX12_behind.2.1 50 = .ok (.getfield 432, 3) := by decide +kernel
theorem dX12_behind_53 : decode YX12_behind.2.1 53 = .ok (.aload_n 0, 1) := by decide +kernel
theorem dX12_behind_54 : decode YX12_behind.2.1 54 = .ok (.ldc2_w 121, 3) := by decide +kernel
theorem dX12_behind_57 : decode YX12_behind.2.1 57 = .ok (.invokevirtual 210, 3) := by decide +kernel
theorem dX12_behind_60 : decode YX12_behind.2.1 60 = .ok (.ifCond .eq 8, 3) := by decide +kernel
theorem dX12_behind_63 : decode YX12_behind.2.1 63 = .ok (.bipush 21, 2) := by decide +kernel
theorem dX12_behind_65 : decode YX12_behind.2.1 65 = .ok (.goto 5, 3) := by decide +kernel
theorem dX12_behind_68 : decode YX12_behind.2.1 68 = .ok (.bipush 22, 2) := by decide +kernel
theorem dX12_behind_70 : decode YX12_behind.2.1 70 = .ok (.iastore, 1) := by decide +kernel
theorem dX12_behind_71 : decode YX12_behind.2.1 71 = .ok (.aload_n 0, 1) := by decide +kernel
theorem dX12_behind_72 : decode YX12_behind.2.1 72 = .ok (.dup, 1) := by decide +kernel
theorem dX12_behind_73 : decode YX12_behind.2.1 73 = .ok (.getfield 432, 3) := by decide +kernel
theorem dX12_behind_76 : decode YX12_behind.2.1 76 = .ok (.iconst 1, 1) := by decide +kernel
theorem dX12_behind_77 : decode YX12_behind.2.1 77 = .ok (.iadd, 1) := by decide +kernel
theorem dX12_behind_78 : decode YX12_behind.2.1 78 = .ok (.putfield 432, 3) := by decide +kernel
theorem dX12_behind_81 : decode YX12_behind.2.1 81 = .ok (.aload_n 0, 1) := by decide +kernel
theorem dX12_behind_82 : decode YX12_behind.2.1 82 = .ok (.iconst 0, 1) := by decide +kernel
theorem dX12_behind_83 : decode YX12_behind.2.1 83 = .ok (.putfield 447, 3) := by decide +kernel
theorem dX12_behind_86 : decode YX12_behind.2.1 86 = .ok (.aload_n 0, 1) := by decide +kernel
theorem dX12_behind_87 : decode YX12_behind.2.1 87 = .ok (.invokevirtual 185, 3) := by decide +kernel
theorem dX12_behind_90 : decode YX12_behind.2.1 90 = .ok (.iconst 1, 1) := by decide +kernel
theorem dX12_behind_91 : decode YX12_behind.2.1 91 = .ok (.ireturn, 1) := by decide +kernel
theorem dX12_behind_92 : decode YX12_behind.2.1 92 = .ok (.aload_n 0, 1) := by decide +kernel
theorem dX12_behind_93 : decode YX12_behind.2.1 93 = .ok (.bipush 22, 2) := by decide +kernel
theorem dX12_behind_95 : decode YX12_behind.2.1 95 = .ok (.invokevirtual 453, 3) := by decide +kernel
theorem dX12_behind_98 : decode YX12_behind.2.1 98 = .ok (.aload_n 0, 1) := by decide +kernel
theorem dX12_behind_99 : decode YX12_behind.2.1 99 = .ok (.bipush 41, 2) := by decide +kernel
theorem dX12_behind_101 : decode YX12_behind.2.1 101 = .ok (.invokevirtual 179, 3) := by decide +kernel
theorem dX12_behind_104 : decode YX12_behind.2.1 104 = .ok (.ifCond .eq 10, 3) := by decide +kernel
theorem dX12_behind_107 : decode YX12_behind.2.1 107 = .ok (.aload_n 0, 1) := by decide +kernel
theorem dX12_behind_108 : decode YX12_behind.2.1 108 = .ok (.getfield 432, 3) := by decide +kernel
theorem dX12_behind_111 : decode YX12_behind.2.1 111 = .ok (.ifCond .ne 9, 3) := by decide +kernel
theorem dX12_behind_114 : decode YX12_behind.2.1 114 = .ok (.aload_n 0, 1) := by decide +kernel
theorem dX12_behind_115 : decode YX12_behind.2.1 115 = .ok (.iconst 1, 1) := by decide +kernel
theorem dX12_behind_116 : decode YX12_behind.2.1 116 = .ok (.invokevirtual 182, 3) := by decide +kernel
theorem dX12_behind_119 : decode YX12_behind.2.1 119 = .ok (.ireturn, 1) := by decide +kernel
theorem dX12_behind_120 : decode YX12_behind.2.1 120 = .ok (.aload_n 0, 1) := by decide +kernel
theorem dX12_behind_121 : decode YX12_behind.2.1 121 = .ok (.dup, 1) := by decide +kernel
theorem dX12_behind_122 : decode YX12_behind.2.1 122 = .ok (.getfield 432, 3) := by decide +kernel
theorem dX12_behind_125 : decode YX12_behind.2.1 125 = .ok (.iconst 1, 1) := by decide +kernel
theorem dX12_behind_126 : decode YX12_behind.2.1 126 = .ok (.isub, 1) := by decide +kernel
theorem dX12_behind_127 : decode YX12_behind.2.1 127 = .ok (.putfield 432, 3) := by decide +kernel
theorem dX12_behind_130 : decode YX12_behind.2.1 130 = .ok (.aload_n 0, 1) := by decide +kernel
theorem dX12_behind_131 : decode YX12_behind.2.1 131 = .ok (.dup, 1) := by decide +kernel
theorem dX12_behind_132 : decode YX12_behind.2.1 132 = .ok (.getfield 438, 3) := by decide +kernel
theorem dX12_behind_135 : decode YX12_behind.2.1 135 = .ok (.iconst 1, 1) := by decide +kernel
theorem dX12_behind_136 : decode YX12_behind.2.1 136 = .ok (.isub, 1) := by decide +kernel
theorem dX12_behind_137 : decode YX12_behind.2.1 137 = .ok (.putfield 438, 3) := by decide +kernel
theorem dX12_behind_140 : decode YX12_behind.2.1 140 = .ok (.aload_n 0, 1) := by decide +kernel
theorem dX12_behind_141 : decode YX12_behind.2.1 141 = .ok (.invokevirtual 185, 3) := by decide +kernel
theorem dX12_behind_144 : decode YX12_behind.2.1 144 = .ok (.iconst 1, 1) := by decide +kernel
theorem dX12_behind_145 : decode YX12_behind.2.1 145 = .ok (.ireturn, 1) := by decide +kernel
theorem dX12_binds_0 : decode YX12_binds.2.1 0 = .ok (.aload_n 0, 1) := by decide +kernel
theorem dX12_binds_1 : decode YX12_binds.2.1 1 = .ok (.getfield 33, 3) := by decide +kernel
theorem dX12_binds_4 : decode YX12_binds.2.1 4 = .ok (.sipush 133, 3) := by decide +kernel
theorem dX12_binds_7 : decode YX12_binds.2.1 7 = .ok (.iload_n 2, 1) := by decide +kernel
theorem dX12_binds_8 : decode YX12_binds.2.1 8 = .ok (.iadd, 1) := by decide +kernel
theorem dX12_binds_9 : decode YX12_binds.2.1 9 = .ok (.iload_n 1, 1) := by decide +kernel
theorem dX12_binds_10 : decode YX12_binds.2.1 10 = .ok (.iconst 1, 1) := by decide +kernel
theorem dX12_binds_11 : decode YX12_binds.2.1 11 = .ok (.iadd, 1) := by decide +kernel
theorem dX12_binds_12 : decode YX12_binds.2.1 12 = .ok (.iastore, 1) := by decide +kernel
theorem dX12_binds_13 : decode YX12_binds.2.1 13 = .ok (.aload_n 0, 1) := by decide +kernel
theorem dX12_binds_14 : decode YX12_binds.2.1 14 = .ok (.getfield 33, 3) := by decide +kernel
theorem dX12_binds_17 : decode YX12_binds.2.1 17 = .ok (.sipush 139, 3) := by decide +kernel
theorem dX12_binds_20 : decode YX12_binds.2.1 20 = .ok (.iload_n 2, 1) := by decide +kernel
theorem dX12_binds_21 : decode YX12_binds.2.1 21 = .ok (.iadd, 1) := by decide +kernel
theorem dX12_binds_22 : decode YX12_binds.2.1 22 = .ok (.iload_n 3, 1) := by decide +kernel
theorem dX12_binds_23 : decode YX12_binds.2.1 23 = .ok (.iastore, 1) := by decide +kernel
theorem dX12_binds_24 : decode YX12_binds.2.1 24 = .ok (.return_, 1) := by decide +kernel
theorem dX12_bitOf_0 : decode YX12_bitOf.2.1 0 = .ok (.iload_n 0, 1) := by decide +kernel
theorem dX12_bitOf_1 : decode YX12_bitOf.2.1 1 = .ok (.iload_n 1, 1) := by decide +kernel
theorem dX12_bitOf_2 : decode YX12_bitOf.2.1 2 = .ok (.ishr, 1) := by decide +kernel
theorem dX12_bitOf_3 : decode YX12_bitOf.2.1 3 = .ok (.iconst 1, 1) := by decide +kernel
theorem dX12_bitOf_4 : decode YX12_bitOf.2.1 4 = .ok (.iand, 1) := by decide +kernel
theorem dX12_bitOf_5 : decode YX12_bitOf.2.1 5 = .ok (.iconst 1, 1) := by decide +kernel
theorem dX12_bitOf_6 : decode YX12_bitOf.2.1 6 = .ok (.if_icmp .ne 7, 3) := by decide +kernel
theorem dX12_bitOf_9 : decode YX12_bitOf.2.1 9 = .ok (.iconst 1, 1) := by decide +kernel
theorem dX12_bitOf_10 : decode YX12_bitOf.2.1 10 = .ok (.goto 4, 3) := by decide +kernel
theorem dX12_bitOf_13 : decode YX12_bitOf.2.1 13 = .ok (.iconst 0, 1) := by decide +kernel
theorem dX12_bitOf_14 : decode YX12_bitOf.2.1 14 = .ok (.ireturn, 1) := by decide +kernel
theorem dX12_bits_0 : decode YX12_bits.2.1 0 = .ok (.iconst 0, 1) := by decide +kernel
theorem dX12_bits_1 : decode YX12_bits.2.1 1 = .ok (.istore_n 1, 1) := by decide +kernel
theorem dX12_bits_2 : decode YX12_bits.2.1 2 = .ok (.iload_n 0, 1) := by decide +kernel
theorem dX12_bits_3 : decode YX12_bits.2.1 3 = .ok (.istore_n 2, 1) := by decide +kernel
theorem dX12_bits_4 : decode YX12_bits.2.1 4 = .ok (.iload_n 2, 1) := by decide +kernel
theorem dX12_bits_5 : decode YX12_bits.2.1 5 = .ok (.ifCond .eq 15, 3) := by decide +kernel
theorem dX12_bits_8 : decode YX12_bits.2.1 8 = .ok (.iinc 1 1, 3) := by decide +kernel
theorem dX12_bits_11 : decode YX12_bits.2.1 11 = .ok (.iload_n 2, 1) := by decide +kernel
theorem dX12_bits_12 : decode YX12_bits.2.1 12 = .ok (.iload_n 2, 1) := by decide +kernel
theorem dX12_bits_13 : decode YX12_bits.2.1 13 = .ok (.iconst 1, 1) := by decide +kernel
theorem dX12_bits_14 : decode YX12_bits.2.1 14 = .ok (.isub, 1) := by decide +kernel
theorem dX12_bits_15 : decode YX12_bits.2.1 15 = .ok (.iand, 1) := by decide +kernel
theorem dX12_bits_16 : decode YX12_bits.2.1 16 = .ok (.istore_n 2, 1) := by decide +kernel
theorem dX12_bits_17 : decode YX12_bits.2.1 17 = .ok (.goto (-13), 3) := by decide +kernel
theorem dX12_bits_20 : decode YX12_bits.2.1 20 = .ok (.iload_n 1, 1) := by decide +kernel
theorem dX12_bits_21 : decode YX12_bits.2.1 21 = .ok (.ireturn, 1) := by decide +kernel
theorem dX12_book_0 : decode YX12_book.2.1 0 = .ok (.aload_n 0, 1) := by decide +kernel
theorem dX12_book_1 : decode YX12_book.2.1 1 = .ok (.iconst 0, 1) := by decide +kernel
theorem dX12_book_2 : decode YX12_book.2.1 2 = .ok (.putfield 1, 3) := by decide +kernel
theorem dX12_book_5 : decode YX12_book.2.1 5 = .ok (.iload_n 1, 1) := by decide +kernel
theorem dX12_book_6 : decode YX12_book.2.1 6 = .ok (.iconst 0, 1) := by decide +kernel
theorem dX12_book_7 : decode YX12_book.2.1 7 = .ok (.iconst 1, 1) := by decide +kernel
theorem dX12_book_8 : decode YX12_book.2.1 8 = .ok (.invokestatic 188, 3) := by decide +kernel
theorem dX12_book_11 : decode YX12_book.2.1 11 = .ok (.ifCond .ne 7, 3) := by decide +kernel
theorem dX12_book_14 : decode YX12_book.2.1 14 = .ok (.sipush (-1000), 3) := by decide +kernel
theorem dX12_book_17 : decode YX12_book.2.1 17 = .ok (.ireturn, 1) := by decide +kernel
theorem dX12_book_18 : decode YX12_book.2.1 18 = .ok (.aload_n 0, 1) := by decide +kernel
theorem dX12_book_19 : decode YX12_book.2.1 19 = .ok (.sipush 400, 3) := by decide +kernel
theorem dX12_book_22 : decode YX12_book.2.1 22 = .ok (.invokevirtual 241, 3) := by decide +kernel
theorem dX12_book_25 : decode YX12_book.2.1 25 = .ok (.aload_n 0, 1) := by decide +kernel
theorem dX12_book_26 : decode YX12_book.2.1 26 = .ok (.iconst 0, 1) := by decide +kernel
theorem dX12_book_27 : decode YX12_book.2.1 27 = .ok (.putfield 173, 3) := by decide +kernel
theorem dX12_book_30 : decode YX12_book.2.1 30 = .ok (.aload_n 0, 1) := by decide +kernel
theorem dX12_book_31 : decode YX12_book.2.1 31 = .ok (.iconst 0, 1) := by decide +kernel
theorem dX12_book_32 : decode YX12_book.2.1 32 = .ok (.putfield 416, 3) := by decide +kernel
theorem dX12_book_35 : decode YX12_book.2.1 35 = .ok (.aload_n 0, 1) := by decide +kernel
theorem dX12_book_36 : decode YX12_book.2.1 36 = .ok (.invokevirtual 185, 3) := by decide +kernel
theorem dX12_book_39 : decode YX12_book.2.1 39 = .ok (.aload_n 0, 1) := by decide +kernel
theorem dX12_book_40 : decode YX12_book.2.1 40 = .ok (.getfield 156, 3) := by decide +kernel
theorem dX12_book_43 : decode YX12_book.2.1 43 = .ok (.ifCond .eq 40, 3) := by decide +kernel
theorem dX12_book_46 : decode YX12_book.2.1 46 = .ok (.aload_n 0, 1) := by decide +kernel
theorem dX12_book_47 : decode YX12_book.2.1 47 = .ok (.invokevirtual 419, 3) := by decide +kernel
theorem dX12_book_50 : decode YX12_book.2.1 50 = .ok (.ifCond .eq 12, 3) := by decide +kernel
theorem dX12_book_53 : decode YX12_book.2.1 53 = .ok (.aload_n 0, 1) := by decide +kernel
theorem dX12_book_54 : decode YX12_book.2.1 54 = .ok (.bipush 59, 2) := by decide +kernel
theorem dX12_book_56 : decode YX12_book.2.1 56 = .ok (.invokevirtual 250, 3) := by decide +kernel
theorem dX12_book_59 : decode YX12_book.2.1 59 = .ok (.ifCond .ne 11, 3) := by decide +kernel
theorem dX12_book_62 : decode YX12_book.2.1 62 = .ok (.bipush (-2), 2) := by decide +kernel
theorem dX12_book_64 : decode YX12_book.2.1 64 = .ok (.aload_n 0, 1) := by decide +kernel
theorem dX12_book_65 : decode YX12_book.2.1 65 = .ok (.getfield 176, 3) := by decide +kernel
theorem dX12_book_68 : decode YX12_book.2.1 68 = .ok (.isub, 1) := by decide +kernel
theorem dX12_book_69 : decode YX12_book.2.1 69 = .ok (.ireturn, 1) := by decide +kernel
theorem dX12_book_70 : decode YX12_book.2.1 70 = .ok (.aload_n 0, 1) := by decide +kernel
theorem dX12_book_71 : decode YX12_book.2.1 71 = .ok (.dup, 1) := by decide +kernel
theorem dX12_book_72 : decode YX12_book.2.1 72 = .ok (.getfield 416, 3) := by decide +kernel
theorem dX12_book_75 : decode YX12_book.2.1 75 = .ok (.iconst 1, 1) := by decide +kernel
theorem dX12_book_76 : decode YX12_book.2.1 76 = .ok (.iadd, 1) := by decide +kernel
theorem dX12_book_77 : decode YX12_book.2.1 77 = .ok (.putfield 416, 3) := by decide +kernel
theorem dX12_book_80 : decode YX12_book.2.1 80 = .ok (.goto (-41), 3) := by decide +kernel
theorem dX12_book_83 : decode YX12_book.2.1 83 = .ok (.aload_n 0, 1) := by decide +kernel
theorem dX12_book_84 : decode YX12_book.2.1 84 = .ok (.invokevirtual 337, 3) := by decide +kernel
theorem dX12_book_87 : decode YX12_book.2.1 87 = .ok (.iconst 0, 1) := by decide +kernel
theorem dX12_book_88 : decode YX12_book.2.1 88 = .ok (.istore_n 2, 1) := by decide +kernel
theorem dX12_book_89 : decode YX12_book.2.1 89 = .ok (.iload_n 2, 1) := by decide +kernel
theorem dX12_book_90 : decode YX12_book.2.1 90 = .ok (.iconst 4, 1) := by decide +kernel
theorem dX12_book_91 : decode YX12_book.2.1 91 = .ok (.if_icmp .ge 16, 3) := by decide +kernel
theorem dX12_book_94 : decode YX12_book.2.1 94 = .ok (.aload_n 0, 1) := by decide +kernel
theorem dX12_book_95 : decode YX12_book.2.1 95 = .ok (.getfield 80, 3) := by decide +kernel
theorem dX12_book_98 : decode YX12_book.2.1 98 = .ok (.iload_n 2, 1) := by decide +kernel
theorem dX12_book_99 : decode YX12_book.2.1 99 = .ok (.iconst 0, 1) := by decide +kernel
theorem dX12_book_100 : decode YX12_book.2.1 100 = .ok (.iastore, 1) := by decide +kernel
theorem dX12_book_101 : decode YX12_book.2.1 101 = .ok (.iinc 2 1, 3) := by decide +kernel
theorem dX12_book_104 : decode YX12_book.2.1 104 = .ok (.goto (-15), 3) := by decide +kernel
theorem dX12_book_107 : decode YX12_book.2.1 107 = .ok (.iconst (-1), 1) := by decide +kernel
theorem dX12_book_108 : decode YX12_book.2.1 108 = .ok (.istore_n 2, 1) := by decide +kernel
theorem dX12_book_109 : decode YX12_book.2.1 109 = .ok (.iconst 0, 1) := by decide +kernel
theorem dX12_book_110 : decode YX12_book.2.1 110 = .ok (.istore_n 3, 1) := by decide +kernel
theorem dX12_book_111 : decode YX12_book.2.1 111 = .ok (.iload_n 3, 1) := by decide +kernel
theorem dX12_book_112 : decode YX12_book.2.1 112 = .ok (.aload_n 0, 1) := by decide +kernel
theorem dX12_book_113 : decode YX12_book.2.1 113 = .ok (.getfield 416, 3) := by decide +kernel
theorem dX12_book_116 : decode YX12_book.2.1 116 = .ok (.if_icmp .ge 85, 3) := by decide +kernel
theorem dX12_book_119 : decode YX12_book.2.1 119 = .ok (.iload_n 2, 1) := by decide +kernel
theorem dX12_book_120 : decode YX12_book.2.1 120 = .ok (.ifCond .ge 81, 3) := by decide +kernel
theorem dX12_book_123 : decode YX12_book.2.1 123 = .ok (.aload_n 0, 1) := by decide +kernel
theorem dX12_book_124 : decode YX12_book.2.1 124 = .ok (.getfield 80, 3) := by decide +kernel
theorem dX12_book_127 : decode YX12_book.2.1 127 = .ok (.iconst 0, 1) := by decide +kernel
theorem dX12_book_128 : decode YX12_book.2.1 128 = .ok (.aload_n 0, 1) := by decide +kernel
theorem dX12_book_129 : decode YX12_book.2.1 129 = .ok (.aload_n 0, 1) := by decide +kernel
theorem dX12_book_130 : decode YX12_book.2.1 130 = .ok (.getfield 40, 3) := by decide +kernel
theorem dX12_book_133 : decode YX12_book.2.1 133 = .ok (.iconst 4, 1) := by decide +kernel
theorem dX12_book_134 : decode YX12_book.2.1 134 = .ok (.iload_n 3, 1) := by decide +kernel
theorem dX12_book_135 : decode YX12_book.2.1 135 = .ok (.imul, 1) := by decide +kernel
theorem dX12_book_136 : decode YX12_book.2.1 136 = .ok (.iaload, 1) := by decide +kernel
theorem dX12_book_137 : decode YX12_book.2.1 137 = .ok (.aload_n 0, 1) := by decide +kernel
theorem dX12_book_138 : decode YX12_book.2.1 138 = .ok (.getfield 40, 3) := by decide +kernel
theorem dX12_book_141 : decode YX12_book.2.1 141 = .ok (.iconst 4, 1) := by decide +kernel
theorem dX12_book_142 : decode YX12_book.2.1 142 = .ok (.iload_n 3, 1) := by decide +kernel
theorem dX12_book_143 : decode YX12_book.2.1 143 = .ok (.imul, 1) := by decide +kernel
theorem dX12_book_144 : decode YX12_book.2.1 144 = .ok (.iconst 1, 1) := by decide +kernel
theorem dX12_book_145 : decode YX12_book.2.1 145 = .ok (.iadd, 1) := by decide +kernel
theorem dX12_book_146 : decode YX12_book.2.1 146 = .ok (.iaload, 1) := by decide +kernel
theorem dX12_book_147 : decode YX12_book.2.1 147 = .ok (.aload_n 0, 1) := by decide +kernel
theorem dX12_book_148 : decode YX12_book.2.1 148 = .ok (.getfield 40, 3) := by decide +kernel
theorem dX12_book_151 : decode YX12_book.2.1 151 = .ok (.iconst 4, 1) := by decide +kernel
theorem dX12_book_152 : decode YX12_book.2.1 152 = .ok (.iload_n 3, 1) := by decide +kernel
theorem dX12_book_153 : decode YX12_book.2.1 153 = .ok (.imul, 1) := by decide +kernel
theorem dX12_book_154 : decode YX12_book.2.1 154 = .ok (.iconst 2, 1) := by decide +kernel
theorem dX12_book_155 : decode YX12_book.2.1 155 = .ok (.iadd, 1) := by decide +kernel
theorem dX12_book_156 : decode YX12_book.2.1 156 = .ok (.iaload, 1) := by decide +kernel
theorem dX12_book_157 : decode YX12_book.2.1 157 = .ok (.aload_n 0, 1) := by decide +kernel
theorem dX12_book_158 : decode YX12_book.2.1 158 = .ok (.getfield 40, 3) := by decide +kernel
theorem dX12_book_161 : decode YX12_book.2.1 161 = .ok (.iconst 4, 1) := by decide +kernel
theorem dX12_book_162 : decode YX12_book.2.1 162 = .ok (.iload_n 3, 1) := by decide +kernel
theorem dX12_book_163 : decode YX12_book.2.1 163 = .ok (.imul, 1) := by decide +kernel
theorem dX12_book_164 : decode YX12_book.2.1 164 = .ok (.iconst 3, 1) := by decide +kernel
theorem dX12_book_165 : decode YX12_book.2.1 165 = .ok (.iadd, 1) := by decide +kernel
theorem dX12_book_166 : decode YX12_book.2.1 166 = .ok (.iaload, 1) := by decide +kernel
theorem dX12_book_167 : decode YX12_book.2.1 167 = .ok (.invokevirtual 422, 3) := by decide +kernel
theorem dX12_book_170 : decode YX12_book.2.1 170 = .ok (.iastore, 1) := by decide +kernel
theorem dX12_book_171 : decode YX12_book.2.1 171 = .ok (.aload_n 0, 1) := by decide +kernel
theorem dX12_book_172 : decode YX12_book.2.1 172 = .ok (.getfield 80, 3) := by decide +kernel
theorem dX12_book_175 : decode YX12_book.2.1 175 = .ok (.iconst 0, 1) := by decide +kernel
theorem dX12_book_176 : decode YX12_book.2.1 176 = .ok (.iaload, 1) := by decide +kernel
theorem dX12_book_177 : decode YX12_book.2.1 177 = .ok (.ifCond .le 8, 3) := by decide +kernel
theorem dX12_book_180 : decode YX12_book.2.1 180 = .ok (.iload_n 3, 1) := by decide +kernel
theorem dX12_book_181 : decode YX12_book.2.1 181 = .ok (.istore_n 2, 1) := by decide +kernel
theorem dX12_book_182 : decode YX12_book.2.1 182 = .ok (.goto 13, 3) := by decide +kernel
theorem dX12_book_185 : decode YX12_book.2.1 185 = .ok (.aload_n 0, 1) := by decide +kernel
theorem dX12_book_186 : decode YX12_book.2.1 186 = .ok (.getfield 80, 3) := by decide +kernel
theorem dX12_book_189 : decode YX12_book.2.1 189 = .ok (.iconst 1, 1) := by decide +kernel
theorem dX12_book_190 : decode YX12_book.2.1 190 = .ok (.dup2, 1) := by decide +kernel
theorem dX12_book_191 : decode YX12_book.2.1 191 = .ok (.iaload, 1) := by decide +kernel
theorem dX12_book_192 : decode YX12_book.2.1 192 = .ok (.iconst 1, 1) := by decide +kernel
theorem dX12_book_193 : decode YX12_book.2.1 193 = .ok (.iadd, 1) := by decide +kernel
theorem dX12_book_194 : decode YX12_book.2.1 194 = .ok (.iastore, 1) := by decide +kernel
theorem dX12_book_195 : decode YX12_book.2.1 195 = .ok (.iinc 3 1, 3) := by decide +kernel
theorem dX12_book_198 : decode YX12_book.2.1 198 = .ok (.goto (-87), 3) := by decide +kernel
theorem dX12_book_201 : decode YX12_book.2.1 201 = .ok (.aload_n 0, 1) := by decide +kernel
theorem dX12_book_202 : decode YX12_book.2.1 202 = .ok (.getfield 80, 3) := by decide +kernel
theorem dX12_book_205 : decode YX12_book.2.1 205 = .ok (.iconst 2, 1) := by decide +kernel
theorem dX12_book_206 : decode YX12_book.2.1 206 = .ok (.aload_n 0, 1) := by decide +kernel
theorem dX12_book_207 : decode YX12_book.2.1 207 = .ok (.getfield 33, 3) := by decide +kernel
theorem dX12_book_210 : decode YX12_book.2.1 210 = .ok (.bipush 89, 2) := by decide +kernel
theorem dX12_book_212 : decode YX12_book.2.1 212 = .ok (.iaload, 1) := by decide +kernel
theorem dX12_book_213 : decode YX12_book.2.1 213 = .ok (.iastore, 1) := by decide +kernel
theorem dX12_book_214 : decode YX12_book.2.1 214 = .ok (.aload_n 0, 1) := by decide +kernel
theorem dX12_book_215 : decode YX12_book.2.1 215 = .ok (.getfield 80, 3) := by decide +kernel
theorem dX12_book_218 : decode YX12_book.2.1 218 = .ok (.iconst 3, 1) := by decide +kernel
theorem dX12_book_219 : decode YX12_book.2.1 219 = .ok (.aload_n 0, 1) := by decide +kernel
theorem dX12_book_220 : decode YX12_book.2.1 220 = .ok (.invokevirtual 289, 3) := by decide +kernel
theorem dX12_book_223 : decode YX12_book.2.1 223 = .ok (.iastore, 1) := by decide +kernel
theorem dX12_book_224 : decode YX12_book.2.1 224 = .ok (.aload_n 0, 1) := by decide +kernel
theorem dX12_book_225 : decode YX12_book.2.1 225 = .ok (.iconst 1, 1) := by decide +kernel
theorem dX12_book_226 : decode YX12_book.2.1 226 = .ok (.putfield 426, 3) := by decide +kernel
theorem dX12_book_229 : decode YX12_book.2.1 229 = .ok (.iload_n 1, 1) := by decide +kernel
theorem dX12_book_230 : decode YX12_book.2.1 230 = .ok (.iconst 1, 1) := by decide +kernel
theorem dX12_book_231 : decode YX12_book.2.1 231 = .ok (.if_icmp .ne 52, 3) := by decide +kernel
theorem dX12_book_234 : decode YX12_book.2.1 234 = .ok (.aload_n 0, 1) := by decide +kernel
theorem dX12_book_235 : decode YX12_book.2.1 235 = .ok (.getfield 80, 3) := by decide +kernel
theorem dX12_book_238 : decode YX12_book.2.1 238 = .ok (.iconst 1, 1) := by decide +kernel
theorem dX12_book_239 : decode YX12_book.2.1 239 = .ok (.iaload, 1) := by decide +kernel
theorem dX12_book_240 : decode YX12_book.2.1 240 = .ok (.ifCond .le 43, 3) := by decide +kernel
theorem dX12_book_243 : decode YX12_book.2.1 243 = .ok (.aload_n 0, 1) := by decide +kernel
theorem dX12_book_244 : decode YX12_book.2.1 244 = .ok (.invokevirtual 304, 3) := by decide +kernel
theorem dX12_book_247 : decode YX12_book.2.1 247 = .ok (.iconst 0, 1) := by decide +kernel
theorem dX12_book_248 : decode YX12_book.2.1 248 = .ok (.istore_n 3, 1) := by decide +kernel
theorem dX12_book_249 : decode YX12_book.2.1 249 = .ok (.iload_n 3, 1) := by decide +kernel
theorem dX12_book_250 : decode YX12_book.2.1 250 = .ok (.bipush 127, 2) := by decide +kernel
theorem dX12_book_252 : decode YX12_book.2.1 252 = .ok (.if_icmp .ge 31, 3) := by decide +kernel
theorem dX12_book_255 : decode YX12_book.2.1 255 = .ok (.aload_n 0, 1) := by decide +kernel
theorem dX12_book_256 : decode YX12_book.2.1 256 = .ok (.getfield 56, 3) := by decide +kernel
theorem dX12_book_259 : decode YX12_book.2.1 259 = .ok (.bipush 127, 2) := by decide +kernel
theorem dX12_book_261 : decode YX12_book.2.1 261 = .ok (.aload_n 0, 1) := by decide +kernel
theorem dX12_book_262 : decode YX12_book.2.1 262 = .ok (.getfield 256, 3) := by decide +kernel
theorem dX12_book_265 : decode YX12_book.2.1 265 = .ok (.iconst 1, 1) := by decide +kernel
theorem dX12_book_266 : decode YX12_book.2.1 266 = .ok (.isub, 1) := by decide +kernel
theorem dX12_book_267 : decode YX12_book.2.1 267 = .ok (.imul, 1) := by decide +kernel
theorem dX12_book_268 : decode YX12_book.2.1 268 = .ok (.iload_n 3, 1) := by decide +kernel
theorem dX12_book_269 : decode YX12_book.2.1 269 = .ok (.iadd, 1) := by decide +kernel
theorem dX12_book_270 : decode YX12_book.2.1 270 = .ok (.aload_n 0, 1) := by decide +kernel
theorem dX12_book_271 : decode YX12_book.2.1 271 = .ok (.getfield 59, 3) := by decide +kernel
theorem dX12_book_274 : decode YX12_book.2.1 274 = .ok (.iload_n 3, 1) := by decide +kernel
theorem dX12_book_275 : decode YX12_book.2.1 275 = .ok (.iaload, 1) := by decide +kernel
theorem dX12_book_276 : decode YX12_book.2.1 276 = .ok (.iastore, 1) := by decide +kernel
theorem dX12_book_277 : decode YX12_book.2.1 277 = .ok (.iinc 3 1, 3) := by decide +kernel
theorem dX12_book_280 : decode YX12_book.2.1 280 = .ok (.goto (-31), 3) := by decide +kernel
theorem dX12_book_283 : decode YX12_book.2.1 283 = .ok (.iload_n 1, 1) := by decide +kernel
theorem dX12_book_284 : decode YX12_book.2.1 284 = .ok (.ifCond .ne 7, 3) := by decide +kernel
theorem dX12_book_287 : decode YX12_book.2.1 287 = .ok (.aload_n 0, 1) := by decide +kernel
theorem dX12_book_288 : decode YX12_book.2.1 288 = .ok (.invokevirtual 340, 3) := by decide +kernel
theorem dX12_book_291 : decode YX12_book.2.1 291 = .ok (.iload_n 2, 1) := by decide +kernel
theorem dX12_book_292 : decode YX12_book.2.1 292 = .ok (.ireturn, 1) := by decide +kernel
theorem dX12_bookLine_0 : decode YX12_bookLine.2.1 0 = .ok (.iconst 4, 1) := by decide +kernel
theorem dX12_bookLine_1 : decode YX12_bookLine.2.1 1 = .ok (.aload_n 0, 1) := by decide +kernel
theorem dX12_bookLine_2 : decode YX12_bookLine.2.1 2 = .ok (.getfield 416, 3) := by decide +kernel
theorem dX12_bookLine_5 : decode YX12_bookLine.2.1 5 = .ok (.imul, 1) := by decide +kernel
theorem dX12_bookLine_6 : decode YX12_bookLine.2.1 6 = .ok (.istore_n 1, 1) := by decide +kernel
theorem dX12_bookLine_7 : decode YX12_bookLine.2.1 7 = .ok (.aload_n 0, 1) := by decide +kernel
theorem dX12_bookLine_8 : decode YX12_bookLine.2.1 8 = .ok (.ldc2_w 117, 3) := by decide +kernel
theorem dX12_bookLine_11 : decode YX12_bookLine.2.1 11 = .ok (.invokevirtual 210, 3) := by decide +kernel
theorem dX12_bookLine_14 : decode YX12_bookLine.2.1 14 = .ok (.istore_n 2, 1) := by decide +kernel
theorem dX12_bookLine_15 : decode YX12_bookLine.2.1 15 = .ok (.iload_n 2, 1) := by decide +kernel
theorem dX12_bookLine_16 : decode YX12_bookLine.2.1 16 = .ok (.ifCond .ne 20, 3) := by decide +kernel
theorem dX12_bookLine_19 : decode YX12_bookLine.2.1 19 = .ok (.aload_n 0, 1) := by decide +kernel
theorem dX12_bookLine_20 : decode YX12_bookLine.2.1 20 = .ok (.bipush 8, 2) := by decide +kernel
theorem dX12_bookLine_22 : decode YX12_bookLine.2.1 22 = .ok (.aload_n 0, 1) := by decide +kernel
theorem dX12_bookLine_23 : decode YX12_bookLine.2.1 23 = .ok (.getfield 33, 3) := by decide +kernel
theorem dX12_bookLine_26 : decode YX12_bookLine.2.1 26 = .ok (.iconst 2, 1) := by decide +kernel
theorem dX12_bookLine_27 : decode YX12_bookLine.2.1 27 = .ok (.iaload, 1) := by decide +kernel
theorem dX12_bookLine_28 : decode YX12_bookLine.2.1 28 = .ok (.invokevirtual 207, 3) := by decide +kernel
theorem dX12_bookLine_31 : decode YX12_bookLine.2.1 31 = .ok (.ifCond .ne 5, 3) := by decide +kernel
theorem dX12_bookLine_34 : decode YX12_bookLine.2.1 34 = .ok (.iconst 0, 1) := by decide +kernel
theorem dX12_bookLine_35 : decode YX12_bookLine.2.1 35 = .ok (.ireturn, 1) := by decide +kernel
theorem dX12_bookLine_36 : decode YX12_bookLine.2.1 36 = .ok (.aload_n 0, 1) := by decide +kernel
theorem dX12_bookLine_37 : decode YX12_bookLine.2.1 37 = .ok (.getfield 416, 3) := by decide +kernel
theorem dX12_bookLine_40 : decode YX12_bookLine.2.1 40 = .ok (.bipush 40, 2) := by decide +kernel
theorem dX12_bookLine_42 : decode YX12_bookLine.2.1 42 = .ok (.if_icmp .ne 9, 3) := by decide +kernel
theorem dX12_bookLine_45 : decode YX12_bookLine.2.1 45 = .ok (.aload_n 0, 1) := by decide +kernel
theorem dX12_bookLine_46 : decode YX12_bookLine.2.1 46 = .ok (.iconst 4, 1) := by decide +kernel
theorem dX12_bookLine_47 : decode YX12_bookLine.2.1 47 = .ok (.invokevirtual 182, 3) := by decide +kernel
theorem dX12_bookLine_50 : decode YX12_bookLine.2.1 50 = .ok (.ireturn, 1) := by decide +kernel
theorem dX12_bookLine_51 : decode YX12_bookLine.2.1 51 = .ok (.aload_n 0, 1) := by decide +kernel
theorem dX12_bookLine_52 : decode YX12_bookLine.2.1 52 = .ok (.getfield 192, 3) := by decide +kernel
theorem dX12_bookLine_55 : decode YX12_bookLine.2.1 55 = .ok (.istore_n 3, 1) := by decide +kernel
theorem dX12_bookLine_56 : decode YX12_bookLine.2.1 56 = .ok (.aload_n 0, 1) := by decide +kernel
theorem dX12_bookLine_57 : decode YX12_bookLine.2.1 57 = .ok (.invokevirtual 185, 3) := by decide +kernel
theorem dX12_bookLine_60 : decode YX12_bookLine.2.1 60 = .ok (.iload_n 2, 1) := by decide +kernel
theorem dX12_bookLine_61 : decode YX12_bookLine.2.1 61 = .ok (.ifCond .eq 36, 3) := by decide +kernel
theorem dX12_bookLine_64 : decode YX12_bookLine.2.1 64 = .ok (.aload_n 0, 1) := by decide +kernel
theorem dX12_bookLine_65 : decode YX12_bookLine.2.1 65 = .ok (.getfield 40, 3) := by decide +kernel
theorem dX12_bookLine_68 : decode YX12_bookLine.2.1 68 = .ok (.iload_n 1, 1) := by decide +kernel
theorem dX12_bookLine_69 : decode YX12_bookLine.2.1 69 = .ok (.iconst 4, 1) := by decide +kernel
theorem dX12_bookLine_70 : decode YX12_bookLine.2.1 70 = .ok (.iastore, 1) := by decide +kernel
theorem dX12_bookLine_71 : decode YX12_bookLine.2.1 71 = .ok (.aload_n 0, 1) := by decide +kernel
theorem dX12_bookLine_72 : decode YX12_bookLine.2.1 72 = .ok (.iconst 1, 1) := by decide +kernel
theorem dX12_bookLine_73 : decode YX12_bookLine.2.1 73 = .ok (.bipush 60, 2) := by decide +kernel
theorem dX12_bookLine_75 : decode YX12_bookLine.2.1 75 = .ok (.invokevirtual 195, 3) := by decide +kernel
theorem dX12_bookLine_78 : decode YX12_bookLine.2.1 78 = .ok (.ifCond .ne 5, 3) := by decide +kernel
theorem dX12_bookLine_81 : decode YX12_bookLine.2.1 81 = .ok (.iconst 0, 1) := by decide +kernel
theorem dX12_bookLine_82 : decode YX12_bookLine.2.1 82 = .ok (.ireturn, 1) := by decide +kernel
theorem dX12_bookLine_83 : decode YX12_bookLine.2.1 83 = .ok (.aload_n 0, 1) := by decide +kernel
theorem dX12_bookLine_84 : decode YX12_bookLine.2.1 84 = .ok (.getfield 40, 3) := by decide +kernel
theorem dX12_bookLine_87 : decode YX12_bookLine.2.1 87 = .ok (.iload_n 1, 1) := by decide +kernel
theorem dX12_bookLine_88 : decode YX12_bookLine.2.1 88 = .ok (.iconst 1, 1) := by decide +kernel
theorem dX12_bookLine_89 : decode YX12_bookLine.2.1 89 = .ok (.iadd, 1) := by decide +kernel
theorem dX12_bookLine_90 : decode YX12_bookLine.2.1 90 = .ok (.aload_n 0, 1) := by decide +kernel
theorem dX12_bookLine_91 : decode YX12_bookLine.2.1 91 = .ok (.getfield 192, 3) := by decide +kernel
theorem dX12_bookLine_94 : decode YX12_bookLine.2.1 94 = .ok (.iastore, 1) := by decide +kernel
theorem dX12_bookLine_95 : decode YX12_bookLine.2.1 95 = .ok (.iconst 1, 1) := by decide +kernel
theorem dX12_bookLine_96 : decode YX12_bookLine.2.1 96 = .ok (.ireturn, 1) := by decide +kernel
theorem dX12_bookLine_97 : decode YX12_bookLine.2.1 97 = .ok (.aload_n 0, 1) := by decide +kernel
theorem dX12_bookLine_98 : decode YX12_bookLine.2.1 98 = .ok (.ldc2_w 109, 3) := by decide +kernel
theorem dX12_bookLine_101 : decode YX12_bookLine.2.1 101 = .ok (.invokevirtual 210, 3) := by decide +kernel
theorem dX12_bookLine_104 : decode YX12_bookLine.2.1 104 = .ok (.ifCond .eq 7, 3) := by decide +kernel
theorem dX12_bookLine_107 : decode YX12_bookLine.2.1 107 = .ok (.iconst 0, 1) := by decide +kernel
theorem dX12_bookLine_108 : decode YX12_bookLine.2.1 108 = .ok (.goto 46, 3) := by decide +kernel
theorem dX12_bookLine_111 : decode YX12_bookLine.2.1 111 = .ok (.aload_n 0, 1) := by decide +kernel
theorem dX12_bookLine_112 : decode YX12_bookLine.2.1 112 = .ok (.ldc2_w 111, 3) := by decide +kernel
theorem dX12_bookLine_115 : decode YX12_bookLine.2.1 115 = .ok (.invokevirtual 210, 3) := by decide +kernel
theorem dX12_bookLine_118 : decode YX12_bookLine.2.1 118 = .ok (.ifCond .eq 7, 3) := by decide +kernel
theorem dX12_bookLine_121 : decode YX12_bookLine.2.1 121 = .ok (.iconst 1, 1) := by decide +kernel
theorem dX12_bookLine_122 : decode YX12_bookLine.2.1 122 = .ok (.goto 32, 3) := by decide +kernel
theorem dX12_bookLine_125 : decode YX12_bookLine.2.1 125 = .ok (.aload_n 0, 1) := by decide +kernel
theorem dX12_bookLine_126 : decode YX12_bookLine.2.1 126 = .ok (.ldc2_w 113, 3) := by decide +kernel
theorem dX12_bookLine_129 : decode YX12_bookLine.2.1 129 = .ok (.invokevirtual 210, 3) := by decide +kernel
theorem dX12_bookLine_132 : decode YX12_bookLine.2.1 132 = .ok (.ifCond .eq 7, 3) := by decide +kernel
theorem dX12_bookLine_135 : decode YX12_bookLine.2.1 135 = .ok (.iconst 2, 1) := by decide +kernel
theorem dX12_bookLine_136 : decode YX12_bookLine.2.1 136 = .ok (.goto 18, 3) := by decide +kernel
theorem dX12_bookLine_139 : decode YX12_bookLine.2.1 139 = .ok (.aload_n 0, 1) := by decide +kernel
theorem dX12_bookLine_140 : decode YX12_bookLine.2.1 140 = .ok (.ldc2_w 115, 3) := by decide +kernel
theorem dX12_bookLine_143 : decode YX12_bookLine.2.1 143 = .ok (.invokevirtual 210, 3) := by decide +kernel
theorem dX12_bookLine_146 : decode YX12_bookLine.2.1 146 = .ok (.ifCond .eq 7, 3) := by decide +kernel
theorem dX12_bookLine_149 : decode YX12_bookLine.2.1 149 = .ok (.iconst 3, 1) := by decide +kernel
theorem dX12_bookLine_150 : decode YX12_bookLine.2.1 150 = .ok (.goto 4, 3) := by decide +kernel
theorem dX12_bookLine_153 : decode YX12_bookLine.2.1 153 = .ok (.iconst (-1), 1) := by decide +kernel
theorem dX12_bookLine_154 : decode YX12_bookLine.2.1 154 = .ok (.istore 4, 2) := by decide +kernel
theorem dX12_bookLine_156 : decode YX12_bookLine.2.1 156 = .ok (.iload 4, 2) := by decide +kernel
theorem dX12_bookLine_158 : decode YX12_bookLine.2.1 158 = .ok (.ifCond .ge 9, 3) := by decide +kernel
theorem dX12_bookLine_161 : decode YX12_bookLine.2.1 161 = .ok (.aload_n 0, 1) := by decide +kernel
theorem dX12_bookLine_162 : decode YX12_bookLine.2.1 162 = .ok (.iconst 1, 1) := by decide +kernel
theorem dX12_bookLine_163 : decode YX12_bookLine.2.1 163 = .ok (.invokevirtual 182, 3) := by decide +kernel
theorem dX12_bookLine_166 : decode YX12_bookLine.2.1 166 = .ok (.ireturn, 1) := by decide +kernel
theorem dX12_bookLine_167 : decode YX12_bookLine.2.1 167 = .ok (.aload_n 0, 1) := by decide +kernel
theorem dX12_bookLine_168 : decode YX12_bookLine.2.1 168 = .ok (.invokevirtual 185, 3) := by decide +kernel
theorem dX12_bookLine_171 : decode YX12_bookLine.2.1 171 = .ok (.aload_n 0, 1) := by decide +kernel
theorem dX12_bookLine_172 : decode YX12_bookLine.2.1 172 = .ok (.getfield 40, 3) := by decide +kernel
theorem dX12_bookLine_175 : decode YX12_bookLine.2.1 175 = .ok (.iload_n 1, 1) := by decide +kernel
theorem dX12_bookLine_176 : decode YX12_bookLine.2.1 176 = .ok (.iload 4, 2) := by decide +kernel
theorem dX12_bookLine_178 : decode YX12_bookLine.2.1 178 = .ok (.iastore, 1) := by decide +kernel
theorem dX12_bookLine_179 : decode YX12_bookLine.2.1 179 = .ok (.aload_n 0, 1) := by decide +kernel
theorem dX12_bookLine_180 : decode YX12_bookLine.2.1 180 = .ok (.getfield 40, 3) := by decide +kernel
theorem dX12_bookLine_183 : decode YX12_bookLine.2.1 183 = .ok (.iload_n 1, 1) := by decide +kernel
theorem dX12_bookLine_184 : decode YX12_bookLine.2.1 184 = .ok (.iconst 1, 1) := by decide +kernel
theorem dX12_bookLine_185 : decode YX12_bookLine.2.1 185 = .ok (.iadd, 1) := by decide +kernel
theorem dX12_bookLine_186 : decode YX12_bookLine.2.1 186 = .ok (.iload_n 3, 1) := by decide +kernel
theorem dX12_bookLine_187 : decode YX12_bookLine.2.1 187 = .ok (.iastore, 1) := by decide +kernel
theorem dX12_bookLine_188 : decode YX12_bookLine.2.1 188 = .ok (.iload 4, 2) := by decide +kernel
theorem dX12_bookLine_190 : decode YX12_bookLine.2.1 190 = .ok (.iconst 1, 1) := by decide +kernel
theorem dX12_bookLine_191 : decode YX12_bookLine.2.1 191 = .ok (.if_icmp .eq 9, 3) := by decide +kernel
theorem dX12_bookLine_194 : decode YX12_bookLine.2.1 194 = .ok (.iload 4, 2) := by decide +kernel
theorem dX12_bookLine_196 : decode YX12_bookLine.2.1 196 = .ok (.iconst 2, 1) := by decide +kernel
theorem dX12_bookLine_197 : decode YX12_bookLine.2.1 197 = .ok (.if_icmp .ne 5, 3) := by decide +kernel
theorem dX12_bookLine_200 : decode YX12_bookLine.2.1 200 = .ok (.iconst 1, 1) := by decide +kernel
theorem dX12_bookLine_201 : decode YX12_bookLine.2.1 201 = .ok (.ireturn, 1) := by decide +kernel
theorem dX12_bookLine_202 : decode YX12_bookLine.2.1 202 = .ok (.iload 4, 2) := by decide +kernel
theorem dX12_bookLine_204 : decode YX12_bookLine.2.1 204 = .ok (.ifCond .ne 33, 3) := by decide +kernel
theorem dX12_bookLine_207 : decode YX12_bookLine.2.1 207 = .ok (.aload_n 0, 1) := by decide +kernel
theorem dX12_bookLine_208 : decode YX12_bookLine.2.1 208 = .ok (.iconst 0, 1) := by decide +kernel
theorem dX12_bookLine_209 : decode YX12_bookLine.2.1 209 = .ok (.aload_n 0, 1) := by decide +kernel
theorem dX12_bookLine_210 : decode YX12_bookLine.2.1 210 = .ok (.getfield 33, 3) := by decide +kernel
theorem dX12_bookLine_213 : decode YX12_bookLine.2.1 213 = .ok (.iconst 0, 1) := by decide +kernel
theorem dX12_bookLine_214 : decode YX12_bookLine.2.1 214 = .ok (.iaload, 1) := by decide +kernel
theorem dX12_bookLine_215 : decode YX12_bookLine.2.1 215 = .ok (.invokevirtual 232, 3) := by decide +kernel
theorem dX12_bookLine_218 : decode YX12_bookLine.2.1 218 = .ok (.ifCond .ne 5, 3) := by decide +kernel
theorem dX12_bookLine_221 : decode YX12_bookLine.2.1 221 = .ok (.iconst 0, 1) := by decide +kernel
theorem dX12_bookLine_222 : decode YX12_bookLine.2.1 222 = .ok (.ireturn, 1) := by decide +kernel
theorem dX12_bookLine_223 : decode YX12_bookLine.2.1 223 = .ok (.aload_n 0, 1) := by decide +kernel
theorem dX12_bookLine_224 : decode YX12_bookLine.2.1 224 = .ok (.getfield 40, 3) := by decide +kernel
theorem dX12_bookLine_227 : decode YX12_bookLine.2.1 227 = .ok (.iload_n 1, 1) := by decide +kernel
theorem dX12_bookLine_228 : decode YX12_bookLine.2.1 228 = .ok (.iconst 2, 1) := by decide +kernel
theorem dX12_bookLine_229 : decode YX12_bookLine.2.1 229 = .ok (.iadd, 1) := by decide +kernel
theorem dX12_bookLine_230 : decode YX12_bookLine.2.1 230 = .ok (.aload_n 0, 1) := by decide +kernel
theorem dX12_bookLine_231 : decode YX12_bookLine.2.1 231 = .ok (.getfield 192, 3) := by decide +kernel
theorem dX12_bookLine_234 : decode YX12_bookLine.2.1 234 = .ok (.iastore, 1) := by decide +kernel
theorem dX12_bookLine_235 : decode YX12_bookLine.2.1 235 = .ok (.iconst 1, 1) := by decide +kernel
theorem dX12_bookLine_236 : decode YX12_bookLine.2.1 236 = .ok (.ireturn, 1) := by decide +kernel
theorem dX12_bookLine_237 : decode YX12_bookLine.2.1 237 = .ok (.aload_n 0, 1) := by decide +kernel
theorem dX12_bookLine_238 : decode YX12_bookLine.2.1 238 = .ok (.bipush 8, 2) := by decide +kernel
theorem dX12_bookLine_240 : decode YX12_bookLine.2.1 240 = .ok (.aload_n 0, 1) := by decide +kernel
theorem dX12_bookLine_241 : decode YX12_bookLine.2.1 241 = .ok (.getfield 33, 3) := by decide +kernel
theorem dX12_bookLine_244 : decode YX12_bookLine.2.1 244 = .ok (.iconst 2, 1) := by decide +kernel
theorem dX12_bookLine_245 : decode YX12_bookLine.2.1 245 = .ok (.iaload, 1) := by decide +kernel
theorem dX12_bookLine_246 : decode YX12_bookLine.2.1 246 = .ok (.invokevirtual 207, 3) := by decide +kernel
theorem dX12_bookLine_249 : decode YX12_bookLine.2.1 249 = .ok (.ifCond .ne 5, 3) := by decide +kernel
theorem dX12_bookLine_252 : decode YX12_bookLine.2.1 252 = .ok (.iconst 0, 1) := by decide +kernel
theorem dX12_bookLine_253 : decode YX12_bookLine.2.1 253 = .ok (.ireturn, 1) := by decide +kernel
theorem dX12_bookLine_254 : decode YX12_bookLine.2.1 254 = .ok (.aload_n 0, 1) := by decide +kernel
theorem dX12_bookLine_255 : decode YX12_bookLine.2.1 255 = .ok (.getfield 192, 3) := by decide +kernel
theorem dX12_bookLine_258 : decode YX12_bookLine.2.1 258 = .ok (.iload_n 3, 1) := by decide +kernel
theorem dX12_bookLine_259 : decode YX12_bookLine.2.1 259 = .ok (.if_icmp .ne 9, 3) := by decide +kernel
theorem dX12_bookLine_262 : decode YX12_bookLine.2.1 262 = .ok (.aload_n 0, 1) := by decide +kernel
theorem dX12_bookLine_263 : decode YX12_bookLine.2.1 263 = .ok (.iconst 3, 1) := by decide +kernel
theorem dX12_bookLine_264 : decode YX12_bookLine.2.1 264 = .ok (.invokevirtual 182, 3) := by decide +kernel
theorem dX12_bookLine_267 : decode YX12_bookLine.2.1 267 = .ok (.ireturn, 1) := by decide +kernel
theorem dX12_bookLine_268 : decode YX12_bookLine.2.1 268 = .ok (.aload_n 0, 1) := by decide +kernel
theorem dX12_bookLine_269 : decode YX12_bookLine.2.1 269 = .ok (.getfield 40, 3) := by decide +kernel
theorem dX12_bookLine_272 : decode YX12_bookLine.2.1 272 = .ok (.iload_n 1, 1) := by decide +kernel
theorem dX12_bookLine_273 : decode YX12_bookLine.2.1 273 = .ok (.iconst 2, 1) := by decide +kernel
theorem dX12_bookLine_274 : decode YX12_bookLine.2.1 274 = .ok (.iadd, 1) := by decide +kernel
theorem dX12_bookLine_275 : decode YX12_bookLine.2.1 275 = .ok (.aload_n 0, 1) := by decide +kernel
theorem dX12_bookLine_276 : decode YX12_bookLine.2.1 276 = .ok (.getfield 192, 3) := by decide +kernel
theorem dX12_bookLine_279 : decode YX12_bookLine.2.1 279 = .ok (.iastore, 1) := by decide +kernel
theorem dX12_bookLine_280 : decode YX12_bookLine.2.1 280 = .ok (.aload_n 0, 1) := by decide +kernel
theorem dX12_bookLine_281 : decode YX12_bookLine.2.1 281 = .ok (.invokevirtual 185, 3) := by decide +kernel
theorem dX12_bookLine_284 : decode YX12_bookLine.2.1 284 = .ok (.aload_n 0, 1) := by decide +kernel
theorem dX12_bookLine_285 : decode YX12_bookLine.2.1 285 = .ok (.iconst 1, 1) := by decide +kernel
theorem dX12_bookLine_286 : decode YX12_bookLine.2.1 286 = .ok (.iconst 5, 1) := by decide +kernel
theorem dX12_bookLine_287 : decode YX12_bookLine.2.1 287 = .ok (.invokevirtual 195, 3) := by decide +kernel
theorem dX12_bookLine_290 : decode YX12_bookLine.2.1 290 = .ok (.ifCond .ne 5, 3) := by decide +kernel
theorem dX12_bookLine_293 : decode YX12_bookLine.2.1 293 = .ok (.iconst 0, 1) := by decide +kernel
theorem dX12_bookLine_294 : decode YX12_bookLine.2.1 294 = .ok (.ireturn, 1) := by decide +kernel
theorem dX12_bookLine_295 : decode YX12_bookLine.2.1 295 = .ok (.aload_n 0, 1) := by decide +kernel
theorem dX12_bookLine_296 : decode YX12_bookLine.2.1 296 = .ok (.getfield 40, 3) := by decide +kernel
theorem dX12_bookLine_299 : decode YX12_bookLine.2.1 299 = .ok (.iload_n 1, 1) := by decide +kernel
theorem dX12_bookLine_300 : decode YX12_bookLine.2.1 300 = .ok (.iconst 3, 1) := by decide +kernel
theorem dX12_bookLine_301 : decode YX12_bookLine.2.1 301 = .ok (.iadd, 1) := by decide +kernel
theorem dX12_bookLine_302 : decode YX12_bookLine.2.1 302 = .ok (.aload_n 0, 1) := by decide +kernel
theorem dX12_bookLine_303 : decode YX12_bookLine.2.1 303 = .ok (.getfield 192, 3) := by decide +kernel
theorem dX12_bookLine_306 : decode YX12_bookLine.2.1 306 = .ok (.iastore, 1) := by decide +kernel
theorem dX12_bookLine_307 : decode YX12_bookLine.2.1 307 = .ok (.iconst 1, 1) := by decide +kernel
theorem dX12_bookLine_308 : decode YX12_bookLine.2.1 308 = .ok (.ireturn, 1) := by decide +kernel
theorem dX12_byteAt_0 : decode YX12_byteAt.2.1 0 = .ok (.aload_n 0, 1) := by decide +kernel
theorem dX12_byteAt_1 : decode YX12_byteAt.2.1 1 = .ok (.iconst 0, 1) := by decide +kernel
theorem dX12_byteAt_2 : decode YX12_byteAt.2.1 2 = .ok (.putfield 1, 3) := by decide +kernel
theorem dX12_byteAt_5 : decode YX12_byteAt.2.1 5 = .ok (.iload_n 1, 1) := by decide +kernel
theorem dX12_byteAt_6 : decode YX12_byteAt.2.1 6 = .ok (.iconst 0, 1) := by decide +kernel
theorem dX12_byteAt_7 : decode YX12_byteAt.2.1 7 = .ok (.aload_n 0, 1) := by decide +kernel
theorem dX12_byteAt_8 : decode YX12_byteAt.2.1 8 = .ok (.getfield 386, 3) := by decide +kernel
theorem dX12_byteAt_11 : decode YX12_byteAt.2.1 11 = .ok (.iconst 1, 1) := by decide +kernel
theorem dX12_byteAt_12 : decode YX12_byteAt.2.1 12 = .ok (.isub, 1) := by decide +kernel
theorem dX12_byteAt_13 : decode YX12_byteAt.2.1 13 = .ok (.invokestatic 188, 3) := by decide +kernel
theorem dX12_byteAt_16 : decode YX12_byteAt.2.1 16 = .ok (.ifCond .eq 12, 3) := by decide +kernel
theorem dX12_byteAt_19 : decode YX12_byteAt.2.1 19 = .ok (.aload_n 0, 1) := by decide +kernel
theorem dX12_byteAt_20 : decode YX12_byteAt.2.1 20 = .ok (.getfield 77, 3) := by decide +kernel
theorem dX12_byteAt_23 : decode YX12_byteAt.2.1 23 = .ok (.iload_n 1, 1) := by decide +kernel
theorem dX12_byteAt_24 : decode YX12_byteAt.2.1 24 = .ok (.baload, 1) := by decide +kernel
theorem dX12_byteAt_25 : decode YX12_byteAt.2.1 25 = .ok (.goto 4, 3) := by decide +kernel
theorem dX12_byteAt_28 : decode YX12_byteAt.2.1 28 = .ok (.iconst (-1), 1) := by decide +kernel
theorem dX12_byteAt_29 : decode YX12_byteAt.2.1 29 = .ok (.ireturn, 1) := by decide +kernel
theorem dX12_clears_0 : decode YX12_clears.2.1 0 = .ok (.iconst 0, 1) := by decide +kernel
theorem dX12_clears_1 : decode YX12_clears.2.1 1 = .ok (.istore_n 1, 1) := by decide +kernel
theorem dX12_clears_2 : decode YX12_clears.2.1 2 = .ok (.iload_n 1, 1) := by decide +kernel
theorem dX12_clears_3 : decode YX12_clears.2.1 3 = .ok (.bipush 89, 2) := by decide +kernel
theorem dX12_clears_5 : decode YX12_clears.2.1 5 = .ok (.if_icmp .ge 16, 3) := by decide +kernel
theorem dX12_clears_8 : decode YX12_clears.2.1 8 = .ok (.aload_n 0, 1) := by decide +kernel
theorem dX12_clears_9 : decode YX12_clears.2.1 9 = .ok (.getfield 37, 3) := by decide +kernel
theorem dX12_clears_12 : decode YX12_clears.2.1 12 = .ok (.iload_n 1, 1) := by decide +kernel
theorem dX12_clears_13 : decode YX12_clears.2.1 13 = .ok (.iconst 0, 1) := by decide +kernel
theorem dX12_clears_14 : decode YX12_clears.2.1 14 = .ok (.iastore, 1) := by decide +kernel
theorem dX12_clears_15 : decode YX12_clears.2.1 15 = .ok (.iinc 1 1, 3) := by decide +kernel
theorem dX12_clears_18 : decode YX12_clears.2.1 18 = .ok (.goto (-16), 3) := by decide +kernel
theorem dX12_clears_21 : decode YX12_clears.2.1 21 = .ok (.return_, 1) := by decide +kernel
theorem dX12_code_0 : decode YX12_code.2.1 0 = .ok (.aload_n 0, 1) := by decide +kernel
theorem dX12_code_1 : decode YX12_code.2.1 1 = .ok (.getfield 40, 3) := by decide +kernel
theorem dX12_code_4 : decode YX12_code.2.1 4 = .ok (.iconst 3, 1) := by decide +kernel
theorem dX12_code_5 : decode YX12_code.2.1 5 = .ok (.aload_n 0, 1) := by decide +kernel
theorem dX12_code_6 : decode YX12_code.2.1 6 = .ok (.getfield 429, 3) := by decide +kernel
theorem dX12_code_9 : decode YX12_code.2.1 9 = .ok (.imul, 1) := by decide +kernel
theorem dX12_code_10 : decode YX12_code.2.1 10 = .ok (.iload_n 1, 1) := by decide +kernel
theorem dX12_code_11 : decode YX12_code.2.1 11 = .ok (.iastore, 1) := by decide +kernel
theorem dX12_code_12 : decode YX12_code.2.1 12 = .ok (.aload_n 0, 1) := by decide +kernel
theorem dX12_code_13 : decode YX12_code.2.1 13 = .ok (.getfield 40, 3) := by decide +kernel
theorem dX12_code_16 : decode YX12_code.2.1 16 = .ok (.iconst 3, 1) := by decide +kernel
theorem dX12_code_17 : decode YX12_code.2.1 17 = .ok (.aload_n 0, 1) := by decide +kernel
theorem dX12_code_18 : decode YX12_code.2.1 18 = .ok (.getfield 429, 3) := by decide +kernel
theorem dX12_code_21 : decode YX12_code.2.1 21 = .ok (.imul, 1) := by decide +kernel
theorem dX12_code_22 : decode YX12_code.2.1 22 = .ok (.iconst 1, 1) := by decide +kernel
theorem dX12_code_23 : decode YX12_code.2.1 23 = .ok (.iadd, 1) := by decide +kernel
theorem dX12_code_24 : decode YX12_code.2.1 24 = .ok (.iload_n 2, 1) := by decide +kernel
theorem dX12_code_25 : decode YX12_code.2.1 25 = .ok (.iastore, 1) := by decide +kernel
theorem dX12_code_26 : decode YX12_code.2.1 26 = .ok (.aload_n 0, 1) := by decide +kernel
theorem dX12_code_27 : decode YX12_code.2.1 27 = .ok (.getfield 40, 3) := by decide +kernel
theorem dX12_code_30 : decode YX12_code.2.1 30 = .ok (.iconst 3, 1) := by decide +kernel
theorem dX12_code_31 : decode YX12_code.2.1 31 = .ok (.aload_n 0, 1) := by decide +kernel
theorem dX12_code_32 : decode YX12_code.2.1 32 = .ok (.getfield 429, 3) := by decide +kernel
theorem dX12_code_35 : decode YX12_code.2.1 35 = .ok (.imul, 1) := by decide +kernel
theorem dX12_code_36 : decode YX12_code.2.1 36 = .ok (.iconst 2, 1) := by decide +kernel
theorem dX12_code_37 : decode YX12_code.2.1 37 = .ok (.iadd, 1) := by decide +kernel
theorem dX12_code_38 : decode YX12_code.2.1 38 = .ok (.iload_n 3, 1) := by decide +kernel
theorem dX12_code_39 : decode YX12_code.2.1 39 = .ok (.iastore, 1) := by decide +kernel
theorem dX12_code_40 : decode YX12_code.2.1 40 = .ok (.aload_n 0, 1) := by decide +kernel
theorem dX12_code_41 : decode YX12_code.2.1 41 = .ok (.dup, 1) := by decide +kernel
theorem dX12_code_42 : decode YX12_code.2.1 42 = .ok (.getfield 429, 3) := by decide +kernel
theorem dX12_code_45 : decode YX12_code.2.1 45 = .ok (.iconst 1, 1) := by decide +kernel
theorem dX12_code_46 : decode YX12_code.2.1 46 = .ok (.iadd, 1) := by decide +kernel
theorem dX12_code_47 : decode YX12_code.2.1 47 = .ok (.putfield 429, 3) := by decide +kernel
theorem dX12_code_50 : decode YX12_code.2.1 50 = .ok (.return_, 1) := by decide +kernel
theorem dX12_corner_0 : decode YX12_corner.2.1 0 = .ok (.aload_n 0, 1) := by decide +kernel
theorem dX12_corner_1 : decode YX12_corner.2.1 1 = .ok (.iconst 0, 1) := by decide +kernel
theorem dX12_corner_2 : decode YX12_corner.2.1 2 = .ok (.putfield 1, 3) := by decide +kernel
theorem dX12_corner_5 : decode YX12_corner.2.1 5 = .ok (.aload_n 0, 1) := by decide +kernel
theorem dX12_corner_6 : decode YX12_corner.2.1 6 = .ok (.iload_n 1, 1) := by decide +kernel
theorem dX12_corner_7 : decode YX12_corner.2.1 7 = .ok (.invokevirtual 283, 3) := by decide +kernel
theorem dX12_corner_10 : decode YX12_corner.2.1 10 = .ok (.ifCond .ne 5, 3) := by decide +kernel
theorem dX12_corner_13 : decode YX12_corner.2.1 13 = .ok (.iconst (-1), 1) := by decide +kernel
theorem dX12_corner_14 : decode YX12_corner.2.1 14 = .ok (.ireturn, 1) := by decide +kernel
theorem dX12_corner_15 : decode YX12_corner.2.1 15 = .ok (.iconst 0, 1) := by decide +kernel
theorem dX12_corner_16 : decode YX12_corner.2.1 16 = .ok (.istore_n 3, 1) := by decide +kernel
theorem dX12_corner_17 : decode YX12_corner.2.1 17 = .ok (.iconst 0, 1) := by decide +kernel
theorem dX12_corner_18 : decode YX12_corner.2.1 18 = .ok (.istore 4, 2) := by decide +kernel
theorem dX12_corner_20 : decode YX12_corner.2.1 20 = .ok (.iload 4, 2) := by decide +kernel
theorem dX12_corner_22 : decode YX12_corner.2.1 22 = .ok (.aload_n 0, 1) := by decide +kernel
theorem dX12_corner_23 : decode YX12_corner.2.1 23 = .ok (.getfield 33, 3) := by decide +kernel
theorem dX12_corner_26 : decode YX12_corner.2.1 26 = .ok (.iconst 2, 1) := by decide +kernel
theorem dX12_corner_27 : decode YX12_corner.2.1 27 = .ok (.iaload, 1) := by decide +kernel
theorem dX12_corner_28 : decode YX12_corner.2.1 28 = .ok (.if_icmp .ge 34, 3) := by decide +kernel
theorem dX12_corner_31 : decode YX12_corner.2.1 31 = .ok (.iload_n 3, 1) := by decide +kernel
theorem dX12_corner_32 : decode YX12_corner.2.1 32 = .ok (.aload_n 0, 1) := by decide +kernel
theorem dX12_corner_33 : decode YX12_corner.2.1 33 = .ok (.getfield 33, 3) := by decide +kernel
theorem dX12_corner_36 : decode YX12_corner.2.1 36 = .ok (.bipush 91, 2) := by decide +kernel
theorem dX12_corner_38 : decode YX12_corner.2.1 38 = .ok (.iload 4, 2) := by decide +kernel
theorem dX12_corner_40 : decode YX12_corner.2.1 40 = .ok (.iadd, 1) := by decide +kernel
theorem dX12_corner_41 : decode YX12_corner.2.1 41 = .ok (.iaload, 1) := by decide +kernel
theorem dX12_corner_42 : decode YX12_corner.2.1 42 = .ok (.iload_n 1, 1) := by decide +kernel
theorem dX12_corner_43 : decode YX12_corner.2.1 43 = .ok (.if_icmp .ne 10, 3) := by decide +kernel
theorem dX12_corner_46 : decode YX12_corner.2.1 46 = .ok (.iconst 1, 1) := by decide +kernel
theorem dX12_corner_47 : decode YX12_corner.2.1 47 = .ok (.iload 4, 2) := by decide +kernel
theorem dX12_corner_49 : decode YX12_corner.2.1 49 = .ok (.ishl, 1) := by decide +kernel
theorem dX12_corner_50 : decode YX12_corner.2.1 50 = .ok (.goto 4, 3) := by decide +kernel
theorem dX12_corner_53 : decode YX12_corner.2.1 53 = .ok (.iconst 0, 1) := by decide +kernel
theorem dX12_corner_54 : decode YX12_corner.2.1 54 = .ok (.ior, 1) := by decide +kernel
theorem dX12_corner_55 : decode YX12_corner.2.1 55 = .ok (.istore_n 3, 1) := by decide +kernel
theorem dX12_corner_56 : decode YX12_corner.2.1 56 = .ok (.iinc 4 1, 3) := by decide +kernel
theorem dX12_corner_59 : decode YX12_corner.2.1 59 = .ok (.goto (-39), 3) := by decide +kernel
theorem dX12_corner_62 : decode YX12_corner.2.1 62 = .ok (.iload_n 2, 1) := by decide +kernel
theorem dX12_corner_63 : decode YX12_corner.2.1 63 = .ok (.tableswitch 62 0 3 #[29, 38, 40, 51], 29) := by decide +kernel
theorem dX12_corner_92 : decode YX12_corner.2.1 92 = .ok (.aload_n 0, 1) := by decide +kernel
theorem dX12_corner_93 : decode YX12_corner.2.1 93 = .ok (.getfield 33, 3) := by decide +kernel
theorem dX12_corner_96 : decode YX12_corner.2.1 96 = .ok (.iconst 3, 1) := by decide +kernel
theorem dX12_corner_97 : decode YX12_corner.2.1 97 = .ok (.iload_n 1, 1) := by decide +kernel
theorem dX12_corner_98 : decode YX12_corner.2.1 98 = .ok (.iadd, 1) := by decide +kernel
theorem dX12_corner_99 : decode YX12_corner.2.1 99 = .ok (.iaload, 1) := by decide +kernel
theorem dX12_corner_100 : decode YX12_corner.2.1 100 = .ok (.ireturn, 1) := by decide +kernel
theorem dX12_corner_101 : decode YX12_corner.2.1 101 = .ok (.iload_n 3, 1) := by decide +kernel
theorem dX12_corner_102 : decode YX12_corner.2.1 102 = .ok (.ireturn, 1) := by decide +kernel
theorem dX12_corner_103 : decode YX12_corner.2.1 103 = .ok (.aload_n 0, 1) := by decide +kernel
theorem dX12_corner_104 : decode YX12_corner.2.1 104 = .ok (.getfield 33, 3) := by decide +kernel
theorem dX12_corner_107 : decode YX12_corner.2.1 107 = .ok (.sipush 199, 3) := by decide +kernel
theorem dX12_corner_110 : decode YX12_corner.2.1 110 = .ok (.iload_n 1, 1) := by decide +kernel
theorem dX12_corner_111 : decode YX12_corner.2.1 111 = .ok (.iadd, 1) := by decide +kernel
theorem dX12_corner_112 : decode YX12_corner.2.1 112 = .ok (.iaload, 1) := by decide +kernel
theorem dX12_corner_113 : decode YX12_corner.2.1 113 = .ok (.ireturn, 1) := by decide +kernel
theorem dX12_corner_114 : decode YX12_corner.2.1 114 = .ok (.aload_n 0, 1) := by decide +kernel
theorem dX12_corner_115 : decode YX12_corner.2.1 115 = .ok (.getfield 33, 3) := by decide +kernel
theorem dX12_corner_118 : decode YX12_corner.2.1 118 = .ok (.sipush 207, 3) := by decide +kernel
theorem dX12_corner_121 : decode YX12_corner.2.1 121 = .ok (.iload_n 1, 1) := by decide +kernel
theorem dX12_corner_122 : decode YX12_corner.2.1 122 = .ok (.iadd, 1) := by decide +kernel
theorem dX12_corner_123 : decode YX12_corner.2.1 123 = .ok (.iaload, 1) := by decide +kernel
theorem dX12_corner_124 : decode YX12_corner.2.1 124 = .ok (.ireturn, 1) := by decide +kernel
theorem dX12_corner_125 : decode YX12_corner.2.1 125 = .ok (.iconst (-1), 1) := by decide +kernel
theorem dX12_corner_126 : decode YX12_corner.2.1 126 = .ok (.ireturn, 1) := by decide +kernel
theorem dX12_couldBe_0 : decode YX12_couldBe.2.1 0 = .ok (.aload_n 0, 1) := by decide +kernel
theorem dX12_couldBe_1 : decode YX12_couldBe.2.1 1 = .ok (.getfield 33, 3) := by decide +kernel
theorem dX12_couldBe_4 : decode YX12_couldBe.2.1 4 = .ok (.sipush 145, 3) := by decide +kernel
theorem dX12_couldBe_7 : decode YX12_couldBe.2.1 7 = .ok (.iload_n 1, 1) := by decide +kernel
theorem dX12_couldBe_8 : decode YX12_couldBe.2.1 8 = .ok (.iadd, 1) := by decide +kernel
theorem dX12_couldBe_9 : decode YX12_couldBe.2.1 9 = .ok (.iaload, 1) := by decide +kernel
theorem dX12_couldBe_10 : decode YX12_couldBe.2.1 10 = .ok (.ifCond .eq 11, 3) := by decide +kernel
theorem dX12_couldBe_13 : decode YX12_couldBe.2.1 13 = .ok (.aload_n 0, 1) := by decide +kernel
theorem dX12_couldBe_14 : decode YX12_couldBe.2.1 14 = .ok (.iload_n 1, 1) := by decide +kernel
theorem dX12_couldBe_15 : decode YX12_couldBe.2.1 15 = .ok (.invokevirtual 277, 3) := by decide +kernel
theorem dX12_couldBe_18 : decode YX12_couldBe.2.1 18 = .ok (.ifCond .eq 5, 3) := by decide +kernel
theorem dX12_couldBe_21 : decode YX12_couldBe.2.1 21 = .ok (.iconst 0, 1) := by decide +kernel
theorem dX12_couldBe_22 : decode YX12_couldBe.2.1 22 = .ok (.ireturn, 1) := by decide +kernel
theorem dX12_couldBe_23 : decode YX12_couldBe.2.1 23 = .ok (.iconst 0, 1) := by decide +kernel
theorem dX12_couldBe_24 : decode YX12_couldBe.2.1 24 = .ok (.istore_n 3, 1) := by decide +kernel
theorem dX12_couldBe_25 : decode YX12_couldBe.2.1 25 = .ok (.iconst 0, 1) := by decide +kernel
theorem dX12_couldBe_26 : decode YX12_couldBe.2.1 26 = .ok (.istore 4, 2) := by decide +kernel
theorem dX12_couldBe_28 : decode YX12_couldBe.2.1 28 = .ok (.iload 4, 2) := by decide +kernel
theorem dX12_couldBe_30 : decode YX12_couldBe.2.1 30 = .ok (.aload_n 0, 1) := by decide +kernel
theorem dX12_couldBe_31 : decode YX12_couldBe.2.1 31 = .ok (.getfield 33, 3) := by decide +kernel
theorem dX12_couldBe_34 : decode YX12_couldBe.2.1 34 = .ok (.iconst 2, 1) := by decide +kernel
theorem dX12_couldBe_35 : decode YX12_couldBe.2.1 35 = .ok (.iaload, 1) := by decide +kernel
theorem dX12_couldBe_36 : decode YX12_couldBe.2.1 36 = .ok (.if_icmp .ge 72, 3) := by decide +kernel
theorem dX12_couldBe_39 : decode YX12_couldBe.2.1 39 = .ok (.iload_n 3, 1) := by decide +kernel
theorem dX12_couldBe_40 : decode YX12_couldBe.2.1 40 = .ok (.aload_n 0, 1) := by decide +kernel
theorem dX12_couldBe_41 : decode YX12_couldBe.2.1 41 = .ok (.iload 4, 2) := by decide +kernel
theorem dX12_couldBe_43 : decode YX12_couldBe.2.1 43 = .ok (.invokevirtual 373, 3) := by decide +kernel
theorem dX12_couldBe_46 : decode YX12_couldBe.2.1 46 = .ok (.ifCond .eq 53, 3) := by decide +kernel
theorem dX12_couldBe_49 : decode YX12_couldBe.2.1 49 = .ok (.iload_n 2, 1) := by decide +kernel
theorem dX12_couldBe_50 : decode YX12_couldBe.2.1 50 = .ok (.iload 4, 2) := by decide +kernel
theorem dX12_couldBe_52 : decode YX12_couldBe.2.1 52 = .ok (.invokestatic 235, 3) := by decide +kernel
theorem dX12_couldBe_55 : decode YX12_couldBe.2.1 55 = .ok (.ifCond .ne 44, 3) := by decide +kernel
theorem dX12_couldBe_58 : decode YX12_couldBe.2.1 58 = .ok (.aload_n 0, 1) := by decide +kernel
theorem dX12_couldBe_59 : decode YX12_couldBe.2.1 59 = .ok (.getfield 50, 3) := by decide +kernel
theorem dX12_couldBe_62 : decode YX12_couldBe.2.1 62 = .ok (.bipush 8, 2) := by decide +kernel
theorem dX12_couldBe_64 : decode YX12_couldBe.2.1 64 = .ok (.aload_n 0, 1) := by decide +kernel
theorem dX12_couldBe_65 : decode YX12_couldBe.2.1 65 = .ok (.getfield 33, 3) := by decide +kernel
theorem dX12_couldBe_68 : decode YX12_couldBe.2.1 68 = .ok (.bipush 91, 2) := by decide +kernel
theorem dX12_couldBe_70 : decode YX12_couldBe.2.1 70 = .ok (.iload 4, 2) := by decide +kernel
theorem dX12_couldBe_72 : decode YX12_couldBe.2.1 72 = .ok (.iadd, 1) := by decide +kernel
theorem dX12_couldBe_73 : decode YX12_couldBe.2.1 73 = .ok (.iaload, 1) := by decide +kernel
theorem dX12_couldBe_74 : decode YX12_couldBe.2.1 74 = .ok (.imul, 1) := by decide +kernel
theorem dX12_couldBe_75 : decode YX12_couldBe.2.1 75 = .ok (.aload_n 0, 1) := by decide +kernel
theorem dX12_couldBe_76 : decode YX12_couldBe.2.1 76 = .ok (.getfield 33, 3) := by decide +kernel
theorem dX12_couldBe_79 : decode YX12_couldBe.2.1 79 = .ok (.bipush 91, 2) := by decide +kernel
theorem dX12_couldBe_81 : decode YX12_couldBe.2.1 81 = .ok (.iload_n 1, 1) := by decide +kernel
theorem dX12_couldBe_82 : decode YX12_couldBe.2.1 82 = .ok (.iadd, 1) := by decide +kernel
theorem dX12_couldBe_83 : decode YX12_couldBe.2.1 83 = .ok (.iaload, 1) := by decide +kernel
theorem dX12_couldBe_84 : decode YX12_couldBe.2.1 84 = .ok (.iadd, 1) := by decide +kernel
theorem dX12_couldBe_85 : decode YX12_couldBe.2.1 85 = .ok (.iaload, 1) := by decide +kernel
theorem dX12_couldBe_86 : decode YX12_couldBe.2.1 86 = .ok (.ldc_w 262, 3) := by decide +kernel
theorem dX12_couldBe_89 : decode YX12_couldBe.2.1 89 = .ok (.if_icmp .ge 10, 3) := by decide +kernel
theorem dX12_couldBe_92 : decode YX12_couldBe.2.1 92 = .ok (.iconst 1, 1) := by decide +kernel
theorem dX12_couldBe_93 : decode YX12_couldBe.2.1 93 = .ok (.iload 4, 2) := by decide +kernel
theorem dX12_couldBe_95 : decode YX12_couldBe.2.1 95 = .ok (.ishl, 1) := by decide +kernel
theorem dX12_couldBe_96 : decode YX12_couldBe.2.1 96 = .ok (.goto 4, 3) := by decide +kernel
theorem dX12_couldBe_99 : decode YX12_couldBe.2.1 99 = .ok (.iconst 0, 1) := by decide +kernel
theorem dX12_couldBe_100 : decode YX12_couldBe.2.1 100 = .ok (.ior, 1) := by decide +kernel
theorem dX12_couldBe_101 : decode YX12_couldBe.2.1 101 = .ok (.istore_n 3, 1) := by decide +kernel
theorem dX12_couldBe_102 : decode YX12_couldBe.2.1 102 = .ok (.iinc 4 1, 3) := by decide +kernel
theorem dX12_couldBe_105 : decode YX12_couldBe.2.1 105 = .ok (.goto (-77), 3) := by decide +kernel
theorem dX12_couldBe_108 : decode YX12_couldBe.2.1 108 = .ok (.iload_n 3, 1) := by decide +kernel
theorem dX12_couldBe_109 : decode YX12_couldBe.2.1 109 = .ok (.ireturn, 1) := by decide +kernel
theorem dX12_count_0 : decode YX12_count.2.1 0 = .ok (.aload_n 0, 1) := by decide +kernel
theorem dX12_count_1 : decode YX12_count.2.1 1 = .ok (.iconst 0, 1) := by decide +kernel
theorem dX12_count_2 : decode YX12_count.2.1 2 = .ok (.putfield 1, 3) := by decide +kernel
theorem dX12_count_5 : decode YX12_count.2.1 5 = .ok (.iload_n 1, 1) := by decide +kernel
theorem dX12_count_6 : decode YX12_count.2.1 6 = .ok (.iconst 3, 1) := by decide +kernel
theorem dX12_count_7 : decode YX12_count.2.1 7 = .ok (.if_icmp .ne 10, 3) := by decide +kernel
theorem dX12_count_10 : decode YX12_count.2.1 10 = .ok (.aload_n 0, 1) := by decide +kernel
theorem dX12_count_11 : decode YX12_count.2.1 11 = .ok (.getfield 7, 3) := by decide +kernel
theorem dX12_count_14 : decode YX12_count.2.1 14 = .ok (.goto 22, 3) := by decide +kernel
theorem dX12_count_17 : decode YX12_count.2.1 17 = .ok (.iload_n 1, 1) := by decide +kernel
theorem dX12_count_18 : decode YX12_count.2.1 18 = .ok (.iconst 0, 1) := by decide +kernel
theorem dX12_count_19 : decode YX12_count.2.1 19 = .ok (.iconst 2, 1) := by decide +kernel
theorem dX12_count_20 : decode YX12_count.2.1 20 = .ok (.invokestatic 188, 3) := by decide +kernel
theorem dX12_count_23 : decode YX12_count.2.1 23 = .ok (.ifCond .eq 12, 3) := by decide +kernel
theorem dX12_count_26 : decode YX12_count.2.1 26 = .ok (.aload_n 0, 1) := by decide +kernel
theorem dX12_count_27 : decode YX12_count.2.1 27 = .ok (.getfield 33, 3) := by decide +kernel
theorem dX12_count_30 : decode YX12_count.2.1 30 = .ok (.iload_n 1, 1) := by decide +kernel
theorem dX12_count_31 : decode YX12_count.2.1 31 = .ok (.iaload, 1) := by decide +kernel
theorem dX12_count_32 : decode YX12_count.2.1 32 = .ok (.goto 4, 3) := by decide +kernel
theorem dX12_count_35 : decode YX12_count.2.1 35 = .ok (.iconst (-1), 1) := by decide +kernel
theorem dX12_count_36 : decode YX12_count.2.1 36 = .ok (.ireturn, 1) := by decide +kernel
theorem dX12_cut_0 : decode YX12_cut.2.1 0 = .ok (.aload_n 0, 1) := by decide +kernel
theorem dX12_cut_1 : decode YX12_cut.2.1 1 = .ok (.iconst 0, 1) := by decide +kernel
theorem dX12_cut_2 : decode YX12_cut.2.1 2 = .ok (.putfield 1, 3) := by decide +kernel
theorem dX12_cut_5 : decode YX12_cut.2.1 5 = .ok (.aload_n 0, 1) := by decide +kernel
theorem dX12_cut_6 : decode YX12_cut.2.1 6 = .ok (.iconst 0, 1) := by decide +kernel
theorem dX12_cut_7 : decode YX12_cut.2.1 7 = .ok (.putfield 327, 3) := by decide +kernel
theorem dX12_cut_10 : decode YX12_cut.2.1 10 = .ok (.aload_n 0, 1) := by decide +kernel
theorem dX12_cut_11 : decode YX12_cut.2.1 11 = .ok (.iconst 1, 1) := by decide +kernel
theorem dX12_cut_12 : decode YX12_cut.2.1 12 = .ok (.putfield 330, 3) := by decide +kernel
theorem dX12_cut_15 : decode YX12_cut.2.1 15 = .ok (.iconst 0, 1) := by decide +kernel
theorem dX12_cut_16 : decode YX12_cut.2.1 16 = .ok (.istore_n 1, 1) := by decide +kernel
theorem dX12_cut_17 : decode YX12_cut.2.1 17 = .ok (.iload_n 1, 1) := by decide +kernel
theorem dX12_cut_18 : decode YX12_cut.2.1 18 = .ok (.aload_n 0, 1) := by decide +kernel
theorem dX12_cut_19 : decode YX12_cut.2.1 19 = .ok (.getfield 33, 3) := by decide +kernel
theorem dX12_cut_22 : decode YX12_cut.2.1 22 = .ok (.iconst 2, 1) := by decide +kernel
theorem dX12_cut_23 : decode YX12_cut.2.1 23 = .ok (.iaload, 1) := by decide +kernel
theorem dX12_cut_24 : decode YX12_cut.2.1 24 = .ok (.if_icmp .ge 50, 3) := by decide +kernel
theorem dX12_cut_27 : decode YX12_cut.2.1 27 = .ok (.aload_n 0, 1) := by decide +kernel
theorem dX12_cut_28 : decode YX12_cut.2.1 28 = .ok (.dup, 1) := by decide +kernel
theorem dX12_cut_29 : decode YX12_cut.2.1 29 = .ok (.getfield 327, 3) := by decide +kernel
theorem dX12_cut_32 : decode YX12_cut.2.1 32 = .ok (.aload_n 0, 1) := by decide +kernel
theorem dX12_cut_33 : decode YX12_cut.2.1 33 = .ok (.iload_n 1, 1) := by decide +kernel
theorem dX12_cut_34 : decode YX12_cut.2.1 34 = .ok (.invokevirtual 286, 3) := by decide +kernel
theorem dX12_cut_37 : decode YX12_cut.2.1 37 = .ok (.ifCond .le 26, 3) := by decide +kernel
theorem dX12_cut_40 : decode YX12_cut.2.1 40 = .ok (.aload_n 0, 1) := by decide +kernel
theorem dX12_cut_41 : decode YX12_cut.2.1 41 = .ok (.iload_n 1, 1) := by decide +kernel
theorem dX12_cut_42 : decode YX12_cut.2.1 42 = .ok (.invokevirtual 286, 3) := by decide +kernel
theorem dX12_cut_45 : decode YX12_cut.2.1 45 = .ok (.iload_n 1, 1) := by decide +kernel
theorem dX12_cut_46 : decode YX12_cut.2.1 46 = .ok (.ishr, 1) := by decide +kernel
theorem dX12_cut_47 : decode YX12_cut.2.1 47 = .ok (.iload_n 1, 1) := by decide +kernel
theorem dX12_cut_48 : decode YX12_cut.2.1 48 = .ok (.ishl, 1) := by decide +kernel
theorem dX12_cut_49 : decode YX12_cut.2.1 49 = .ok (.aload_n 0, 1) := by decide +kernel
theorem dX12_cut_50 : decode YX12_cut.2.1 50 = .ok (.iload_n 1, 1) := by decide +kernel
theorem dX12_cut_51 : decode YX12_cut.2.1 51 = .ok (.invokevirtual 286, 3) := by decide +kernel
theorem dX12_cut_54 : decode YX12_cut.2.1 54 = .ok (.if_icmp .ne 9, 3) := by decide +kernel
theorem dX12_cut_57 : decode YX12_cut.2.1 57 = .ok (.iconst 1, 1) := by decide +kernel
theorem dX12_cut_58 : decode YX12_cut.2.1 58 = .ok (.iload_n 1, 1) := by decide +kernel
theorem dX12_cut_59 : decode YX12_cut.2.1 59 = .ok (.ishl, 1) := by decide +kernel
theorem dX12_cut_60 : decode YX12_cut.2.1 60 = .ok (.goto 4, 3) := by decide +kernel
theorem dX12_cut_63 : decode YX12_cut.2.1 63 = .ok (.iconst 0, 1) := by decide +kernel
theorem dX12_cut_64 : decode YX12_cut.2.1 64 = .ok (.ior, 1) := by decide +kernel
theorem dX12_cut_65 : decode YX12_cut.2.1 65 = .ok (.putfield 327, 3) := by decide +kernel
theorem dX12_cut_68 : decode YX12_cut.2.1 68 = .ok (.iinc 1 1, 3) := by decide +kernel
theorem dX12_cut_71 : decode YX12_cut.2.1 71 = .ok (.goto (-54), 3) := by decide +kernel
theorem dX12_cut_74 : decode YX12_cut.2.1 74 = .ok (.aload_n 0, 1) := by decide +kernel
theorem dX12_cut_75 : decode YX12_cut.2.1 75 = .ok (.getfield 327, 3) := by decide +kernel
theorem dX12_cut_78 : decode YX12_cut.2.1 78 = .ok (.invokestatic 334, 3) := by decide +kernel
theorem dX12_cut_81 : decode YX12_cut.2.1 81 = .ok (.ireturn, 1) := by decide +kernel
theorem dX12_cutting_0 : decode YX12_cutting.2.1 0 = .ok (.aload_n 0, 1) := by decide +kernel
theorem dX12_cutting_1 : decode YX12_cutting.2.1 1 = .ok (.iconst 0, 1) := by decide +kernel
theorem dX12_cutting_2 : decode YX12_cutting.2.1 2 = .ok (.putfield 1, 3) := by decide +kernel
theorem dX12_cutting_5 : decode YX12_cutting.2.1 5 = .ok (.aload_n 0, 1) := by decide +kernel
theorem dX12_cutting_6 : decode YX12_cutting.2.1 6 = .ok (.getfield 330, 3) := by decide +kernel
theorem dX12_cutting_9 : decode YX12_cutting.2.1 9 = .ok (.ifCond .eq 10, 3) := by decide +kernel
theorem dX12_cutting_12 : decode YX12_cutting.2.1 12 = .ok (.aload_n 0, 1) := by decide +kernel
theorem dX12_cutting_13 : decode YX12_cutting.2.1 13 = .ok (.getfield 327, 3) := by decide +kernel
theorem dX12_cutting_16 : decode YX12_cutting.2.1 16 = .ok (.goto 4, 3) := by decide +kernel
theorem dX12_cutting_19 : decode YX12_cutting.2.1 19 = .ok (.iconst (-1), 1) := by decide +kernel
theorem dX12_cutting_20 : decode YX12_cutting.2.1 20 = .ok (.ireturn, 1) := by decide +kernel
theorem dX12_does_0 : decode YX12_does.2.1 0 = .ok (.iconst 0, 1) := by decide +kernel
theorem dX12_does_1 : decode YX12_does.2.1 1 = .ok (.istore 5, 2) := by decide +kernel
theorem dX12_does_3 : decode YX12_does.2.1 3 = .ok (.iload_n 1, 1) := by decide +kernel
theorem dX12_does_4 : decode YX12_does.2.1 4 = .ok (.tableswitch 137 0 3 #[32, 54, 86, 114], 32) := by decide +kernel
theorem dX12_does_36 : decode YX12_does.2.1 36 = .ok (.aload_n 0, 1) := by decide +kernel
theorem dX12_does_37 : decode YX12_does.2.1 37 = .ok (.iload_n 2, 1) := by decide +kernel
theorem dX12_does_38 : decode YX12_does.2.1 38 = .ok (.iload_n 3, 1) := by decide +kernel
theorem dX12_does_39 : decode YX12_does.2.1 39 = .ok (.invokevirtual 301, 3) := by decide +kernel
theorem dX12_does_42 : decode YX12_does.2.1 42 = .ok (.istore 5, 2) := by decide +kernel
theorem dX12_does_44 : decode YX12_does.2.1 44 = .ok (.iload 5, 2) := by decide +kernel
theorem dX12_does_46 : decode YX12_does.2.1 46 = .ok (.ifCond .ne 128, 3) := by decide +kernel
theorem dX12_does_49 : decode YX12_does.2.1 49 = .ok (.aload_n 0, 1) := by decide +kernel
theorem dX12_does_50 : decode YX12_does.2.1 50 = .ok (.iload_n 2, 1) := by decide +kernel
theorem dX12_does_51 : decode YX12_does.2.1 51 = .ok (.iload_n 3, 1) := by decide +kernel
theorem dX12_does_52 : decode YX12_does.2.1 52 = .ok (.invokevirtual 307, 3) := by decide +kernel
theorem dX12_does_55 : decode YX12_does.2.1 55 = .ok (.goto 119, 3) := by decide +kernel
theorem dX12_does_58 : decode YX12_does.2.1 58 = .ok (.aload_n 0, 1) := by decide +kernel
theorem dX12_does_59 : decode YX12_does.2.1 59 = .ok (.getfield 33, 3) := by decide +kernel
theorem dX12_does_62 : decode YX12_does.2.1 62 = .ok (.bipush 127, 2) := by decide +kernel
theorem dX12_does_64 : decode YX12_does.2.1 64 = .ok (.iload_n 2, 1) := by decide +kernel
theorem dX12_does_65 : decode YX12_does.2.1 65 = .ok (.iadd, 1) := by decide +kernel
theorem dX12_does_66 : decode YX12_does.2.1 66 = .ok (.iaload, 1) := by decide +kernel
theorem dX12_does_67 : decode YX12_does.2.1 67 = .ok (.ifCond .ne 7, 3) := by decide +kernel
theorem dX12_does_70 : decode YX12_does.2.1 70 = .ok (.iconst 1, 1) := by decide +kernel
theorem dX12_does_71 : decode YX12_does.2.1 71 = .ok (.goto 4, 3) := by decide +kernel
theorem dX12_does_74 : decode YX12_does.2.1 74 = .ok (.iconst 0, 1) := by decide +kernel
theorem dX12_does_75 : decode YX12_does.2.1 75 = .ok (.istore 5, 2) := by decide +kernel
theorem dX12_does_77 : decode YX12_does.2.1 77 = .ok (.iload 5, 2) := by decide +kernel
theorem dX12_does_79 : decode YX12_does.2.1 79 = .ok (.ifCond .ne 95, 3) := by decide +kernel
theorem dX12_does_82 : decode YX12_does.2.1 82 = .ok (.aload_n 0, 1) := by decide +kernel
theorem dX12_does_83 : decode YX12_does.2.1 83 = .ok (.iload_n 2, 1) := by decide +kernel
theorem dX12_does_84 : decode YX12_does.2.1 84 = .ok (.invokevirtual 311, 3) := by decide +kernel
theorem dX12_does_87 : decode YX12_does.2.1 87 = .ok (.goto 87, 3) := by decide +kernel
theorem dX12_does_90 : decode YX12_does.2.1 90 = .ok (.aload_n 0, 1) := by decide +kernel
theorem dX12_does_91 : decode YX12_does.2.1 91 = .ok (.getfield 33, 3) := by decide +kernel
theorem dX12_does_94 : decode YX12_does.2.1 94 = .ok (.sipush 133, 3) := by decide +kernel
theorem dX12_does_97 : decode YX12_does.2.1 97 = .ok (.iload_n 2, 1) := by decide +kernel
theorem dX12_does_98 : decode YX12_does.2.1 98 = .ok (.iadd, 1) := by decide +kernel
theorem dX12_does_99 : decode YX12_does.2.1 99 = .ok (.iaload, 1) := by decide +kernel
theorem dX12_does_100 : decode YX12_does.2.1 100 = .ok (.ifCond .ne 7, 3) := by decide +kernel
theorem dX12_does_103 : decode YX12_does.2.1 103 = .ok (.iconst 1, 1) := by decide +kernel
theorem dX12_does_104 : decode YX12_does.2.1 104 = .ok (.goto 4, 3) := by decide +kernel
theorem dX12_does_107 : decode YX12_does.2.1 107 = .ok (.iconst 0, 1) := by decide +kernel
theorem dX12_does_108 : decode YX12_does.2.1 108 = .ok (.istore 5, 2) := by decide +kernel
theorem dX12_does_110 : decode YX12_does.2.1 110 = .ok (.aload_n 0, 1) := by decide +kernel
theorem dX12_does_111 : decode YX12_does.2.1 111 = .ok (.iload_n 2, 1) := by decide +kernel
theorem dX12_does_112 : decode YX12_does.2.1 112 = .ok (.invokevirtual 314, 3) := by decide +kernel
theorem dX12_does_115 : decode YX12_does.2.1 115 = .ok (.goto 59, 3) := by decide +kernel
theorem dX12_does_118 : decode YX12_does.2.1 118 = .ok (.aload_n 0, 1) := by decide +kernel
theorem dX12_does_119 : decode YX12_does.2.1 119 = .ok (.iload_n 3, 1) := by decide +kernel
theorem dX12_does_120 : decode YX12_does.2.1 120 = .ok (.invokevirtual 317, 3) := by decide +kernel
theorem dX12_does_123 : decode YX12_does.2.1 123 = .ok (.istore 5, 2) := by decide +kernel
theorem dX12_does_125 : decode YX12_does.2.1 125 = .ok (.iload 5, 2) := by decide +kernel
theorem dX12_does_127 : decode YX12_does.2.1 127 = .ok (.ifCond .ne 47, 3) := by decide +kernel
theorem dX12_does_130 : decode YX12_does.2.1 130 = .ok (.aload_n 0, 1) := by decide +kernel
theorem dX12_does_131 : decode YX12_does.2.1 131 = .ok (.iload_n 2, 1) := by decide +kernel
theorem dX12_does_132 : decode YX12_does.2.1 132 = .ok (.iload_n 3, 1) := by decide +kernel
theorem dX12_does_133 : decode YX12_does.2.1 133 = .ok (.iload 4, 2) := by decide +kernel
theorem dX12_does_135 : decode YX12_does.2.1 135 = .ok (.invokevirtual 320, 3) := by decide +kernel
theorem dX12_does_138 : decode YX12_does.2.1 138 = .ok (.goto 36, 3) := by decide +kernel
theorem dX12_does_141 : decode YX12_does.2.1 141 = .ok (.aload_n 0, 1) := by decide +kernel
theorem dX12_does_142 : decode YX12_does.2.1 142 = .ok (.getfield 33, 3) := by decide +kernel
theorem dX12_does_145 : decode YX12_does.2.1 145 = .ok (.bipush 89, 2) := by decide +kernel
theorem dX12_does_147 : decode YX12_does.2.1 147 = .ok (.iaload, 1) := by decide +kernel
theorem dX12_does_148 : decode YX12_does.2.1 148 = .ok (.iload_n 2, 1) := by decide +kernel
theorem dX12_does_149 : decode YX12_does.2.1 149 = .ok (.iadd, 1) := by decide +kernel
theorem dX12_does_150 : decode YX12_does.2.1 150 = .ok (.sipush 400, 3) := by decide +kernel
theorem dX12_does_153 : decode YX12_does.2.1 153 = .ok (.if_icmp .le 7, 3) := by decide +kernel
theorem dX12_does_156 : decode YX12_does.2.1 156 = .ok (.iconst 1, 1) := by decide +kernel
theorem dX12_does_157 : decode YX12_does.2.1 157 = .ok (.goto 4, 3) := by decide +kernel
theorem dX12_does_160 : decode YX12_does.2.1 160 = .ok (.iconst 0, 1) := by decide +kernel
theorem dX12_does_161 : decode YX12_does.2.1 161 = .ok (.istore 5, 2) := by decide +kernel
theorem dX12_does_163 : decode YX12_does.2.1 163 = .ok (.iload 5, 2) := by decide +kernel
theorem dX12_does_165 : decode YX12_does.2.1 165 = .ok (.ifCond .ne 9, 3) := by decide +kernel
theorem dX12_does_168 : decode YX12_does.2.1 168 = .ok (.aload_n 0, 1) := by decide +kernel
theorem dX12_does_169 : decode YX12_does.2.1 169 = .ok (.iload_n 2, 1) := by decide +kernel
theorem dX12_does_170 : decode YX12_does.2.1 170 = .ok (.invokevirtual 324, 3) := by decide +kernel
theorem dX12_does_173 : decode YX12_does.2.1 173 = .ok (.pop, 1) := by decide +kernel
theorem dX12_does_174 : decode YX12_does.2.1 174 = .ok (.iload 5, 2) := by decide +kernel
theorem dX12_does_176 : decode YX12_does.2.1 176 = .ok (.ifCond .le 13, 3) := by decide +kernel
theorem dX12_does_179 : decode YX12_does.2.1 179 = .ok (.bipush 10, 2) := by decide +kernel
theorem dX12_does_181 : decode YX12_does.2.1 181 = .ok (.iload_n 1, 1) := by decide +kernel
theorem dX12_does_182 : decode YX12_does.2.1 182 = .ok (.imul, 1) := by decide +kernel
theorem dX12_does_183 : decode YX12_does.2.1 183 = .ok (.iload 5, 2) := by decide +kernel
theorem dX12_does_185 : decode YX12_does.2.1 185 = .ok (.iadd, 1) := by decide +kernel
theorem dX12_does_186 : decode YX12_does.2.1 186 = .ok (.goto 4, 3) := by decide +kernel
theorem dX12_does_189 : decode YX12_does.2.1 189 = .ok (.iconst 0, 1) := by decide +kernel
theorem dX12_does_190 : decode YX12_does.2.1 190 = .ok (.ireturn, 1) := by decide +kernel
theorem dX12_draw_0 : decode YX12_draw.2.1 0 = .ok (.aload_n 0, 1) := by decide +kernel
theorem dX12_draw_1 : decode YX12_draw.2.1 1 = .ok (.aload_n 0, 1) := by decide +kernel
theorem dX12_draw_2 : decode YX12_draw.2.1 2 = .ok (.getfield 403, 3) := by decide +kernel
theorem dX12_draw_5 : decode YX12_draw.2.1 5 = .ok (.ldc_w 406, 3) := by decide +kernel
theorem dX12_draw_8 : decode YX12_draw.2.1 8 = .ok (.imul, 1) := by decide +kernel
theorem dX12_draw_9 : decode YX12_draw.2.1 9 = .ok (.sipush 12345, 3) := by decide +kernel
theorem dX12_draw_12 : decode YX12_draw.2.1 12 = .ok (.iadd, 1) := by decide +kernel
theorem dX12_draw_13 : decode YX12_draw.2.1 13 = .ok (.putfield 403, 3) := by decide +kernel
theorem dX12_draw_16 : decode YX12_draw.2.1 16 = .ok (.aload_n 0, 1) := by decide +kernel
theorem dX12_draw_17 : decode YX12_draw.2.1 17 = .ok (.getfield 403, 3) := by decide +kernel
theorem dX12_draw_20 : decode YX12_draw.2.1 20 = .ok (.bipush 8, 2) := by decide +kernel
theorem dX12_draw_22 : decode YX12_draw.2.1 22 = .ok (.iushr, 1) := by decide +kernel
theorem dX12_draw_23 : decode YX12_draw.2.1 23 = .ok (.iload_n 1, 1) := by decide +kernel
theorem dX12_draw_24 : decode YX12_draw.2.1 24 = .ok (.irem, 1) := by decide +kernel
theorem dX12_draw_25 : decode YX12_draw.2.1 25 = .ok (.ireturn, 1) := by decide +kernel
theorem dX12_drawPerson_0 : decode YX12_drawPerson.2.1 0 = .ok (.aload_n 0, 1) := by decide +kernel
theorem dX12_drawPerson_1 : decode YX12_drawPerson.2.1 1 = .ok (.bipush 8, 2) := by decide +kernel
theorem dX12_drawPerson_3 : decode YX12_drawPerson.2.1 3 = .ok (.invokevirtual 407, 3) := by decide +kernel
theorem dX12_drawPerson_6 : decode YX12_drawPerson.2.1 6 = .ok (.istore_n 2, 1) := by decide +kernel
theorem dX12_drawPerson_7 : decode YX12_drawPerson.2.1 7 = .ok (.iload_n 2, 1) := by decide +kernel
theorem dX12_drawPerson_8 : decode YX12_drawPerson.2.1 8 = .ok (.ifCond .ne 47, 3) := by decide +kernel
theorem dX12_drawPerson_11 : decode YX12_drawPerson.2.1 11 = .ok (.aload_n 0, 1) := by decide +kernel
theorem dX12_drawPerson_12 : decode YX12_drawPerson.2.1 12 = .ok (.aload_n 0, 1) := by decide +kernel
theorem dX12_drawPerson_13 : decode YX12_drawPerson.2.1 13 = .ok (.getfield 33, 3) := by decide +kernel
theorem dX12_drawPerson_16 : decode YX12_drawPerson.2.1 16 = .ok (.iconst 2, 1) := by decide +kernel
theorem dX12_drawPerson_17 : decode YX12_drawPerson.2.1 17 = .ok (.iaload, 1) := by decide +kernel
theorem dX12_drawPerson_18 : decode YX12_drawPerson.2.1 18 = .ok (.invokevirtual 407, 3) := by decide +kernel
theorem dX12_drawPerson_21 : decode YX12_drawPerson.2.1 21 = .ok (.istore_n 3, 1) := by decide +kernel
theorem dX12_drawPerson_22 : decode YX12_drawPerson.2.1 22 = .ok (.aload_n 0, 1) := by decide +kernel
theorem dX12_drawPerson_23 : decode YX12_drawPerson.2.1 23 = .ok (.iconst 5, 1) := by decide +kernel
theorem dX12_drawPerson_24 : decode YX12_drawPerson.2.1 24 = .ok (.invokevirtual 407, 3) := by decide +kernel
theorem dX12_drawPerson_27 : decode YX12_drawPerson.2.1 27 = .ok (.iconst 1, 1) := by decide +kernel
theorem dX12_drawPerson_28 : decode YX12_drawPerson.2.1 28 = .ok (.iadd, 1) := by decide +kernel
theorem dX12_drawPerson_29 : decode YX12_drawPerson.2.1 29 = .ok (.istore 4, 2) := by decide +kernel
theorem dX12_drawPerson_31 : decode YX12_drawPerson.2.1 31 = .ok (.iload_n 3, 1) := by decide +kernel
theorem dX12_drawPerson_32 : decode YX12_drawPerson.2.1 32 = .ok (.iload_n 1, 1) := by decide +kernel
theorem dX12_drawPerson_33 : decode YX12_drawPerson.2.1 33 = .ok (.if_icmp .eq 19, 3) := by decide +kernel
theorem dX12_drawPerson_36 : decode YX12_drawPerson.2.1 36 = .ok (.aload_n 0, 1) := by decide +kernel
theorem dX12_drawPerson_37 : decode YX12_drawPerson.2.1 37 = .ok (.iload_n 3, 1) := by decide +kernel
theorem dX12_drawPerson_38 : decode YX12_drawPerson.2.1 38 = .ok (.invokevirtual 317, 3) := by decide +kernel
theorem dX12_drawPerson_41 : decode YX12_drawPerson.2.1 41 = .ok (.ifCond .ne 11, 3) := by decide +kernel
theorem dX12_drawPerson_44 : decode YX12_drawPerson.2.1 44 = .ok (.aload_n 0, 1) := by decide +kernel
theorem dX12_drawPerson_45 : decode YX12_drawPerson.2.1 45 = .ok (.iload_n 1, 1) := by decide +kernel
theorem dX12_drawPerson_46 : decode YX12_drawPerson.2.1 46 = .ok (.iload_n 3, 1) := by decide +kernel
theorem dX12_drawPerson_47 : decode YX12_drawPerson.2.1 47 = .ok (.iload 4, 2) := by decide +kernel
theorem dX12_drawPerson_49 : decode YX12_drawPerson.2.1 49 = .ok (.invokevirtual 320, 3) := by decide +kernel
theorem dX12_drawPerson_52 : decode YX12_drawPerson.2.1 52 = .ok (.goto 85, 3) := by decide +kernel
theorem dX12_drawPerson_55 : decode YX12_drawPerson.2.1 55 = .ok (.iload_n 2, 1) := by decide +kernel
theorem dX12_drawPerson_56 : decode YX12_drawPerson.2.1 56 = .ok (.iconst 1, 1) := by decide +kernel
theorem dX12_drawPerson_57 : decode YX12_drawPerson.2.1 57 = .ok (.if_icmp .ne 24, 3) := by decide +kernel
theorem dX12_drawPerson_60 : decode YX12_drawPerson.2.1 60 = .ok (.aload_n 0, 1) := by decide +kernel
theorem dX12_drawPerson_61 : decode YX12_drawPerson.2.1 61 = .ok (.getfield 33, 3) := by decide +kernel
theorem dX12_drawPerson_64 : decode YX12_drawPerson.2.1 64 = .ok (.sipush 133, 3) := by decide +kernel
theorem dX12_drawPerson_67 : decode YX12_drawPerson.2.1 67 = .ok (.iload_n 1, 1) := by decide +kernel
theorem dX12_drawPerson_68 : decode YX12_drawPerson.2.1 68 = .ok (.iadd, 1) := by decide +kernel
theorem dX12_drawPerson_69 : decode YX12_drawPerson.2.1 69 = .ok (.iaload, 1) := by decide +kernel
theorem dX12_drawPerson_70 : decode YX12_drawPerson.2.1 70 = .ok (.ifCond .le 67, 3) := by decide +kernel
theorem dX12_drawPerson_73 : decode YX12_drawPerson.2.1 73 = .ok (.aload_n 0, 1) := by decide +kernel
theorem dX12_drawPerson_74 : decode YX12_drawPerson.2.1 74 = .ok (.iload_n 1, 1) := by decide +kernel
theorem dX12_drawPerson_75 : decode YX12_drawPerson.2.1 75 = .ok (.invokevirtual 314, 3) := by decide +kernel
theorem dX12_drawPerson_78 : decode YX12_drawPerson.2.1 78 = .ok (.goto 59, 3) := by decide +kernel
theorem dX12_drawPerson_81 : decode YX12_drawPerson.2.1 81 = .ok (.iload_n 2, 1) := by decide +kernel
theorem dX12_drawPerson_82 : decode YX12_drawPerson.2.1 82 = .ok (.iconst 5, 1) := by decide +kernel
theorem dX12_drawPerson_83 : decode YX12_drawPerson.2.1 83 = .ok (.if_icmp .ge 32, 3) := by decide +kernel
theorem dX12_drawPerson_86 : decode YX12_drawPerson.2.1 86 = .ok (.aload_n 0, 1) := by decide +kernel
theorem dX12_drawPerson_87 : decode YX12_drawPerson.2.1 87 = .ok (.aload_n 0, 1) := by decide +kernel
theorem dX12_drawPerson_88 : decode YX12_drawPerson.2.1 88 = .ok (.getfield 33, 3) := by decide +kernel
theorem dX12_drawPerson_91 : decode YX12_drawPerson.2.1 91 = .ok (.iconst 0, 1) := by decide +kernel
theorem dX12_drawPerson_92 : decode YX12_drawPerson.2.1 92 = .ok (.iaload, 1) := by decide +kernel
theorem dX12_drawPerson_93 : decode YX12_drawPerson.2.1 93 = .ok (.invokevirtual 407, 3) := by decide +kernel
theorem dX12_drawPerson_96 : decode YX12_drawPerson.2.1 96 = .ok (.istore_n 3, 1) := by decide +kernel
theorem dX12_drawPerson_97 : decode YX12_drawPerson.2.1 97 = .ok (.aload_n 0, 1) := by decide +kernel
theorem dX12_drawPerson_98 : decode YX12_drawPerson.2.1 98 = .ok (.iload_n 1, 1) := by decide +kernel
theorem dX12_drawPerson_99 : decode YX12_drawPerson.2.1 99 = .ok (.iload_n 3, 1) := by decide +kernel
theorem dX12_drawPerson_100 : decode YX12_drawPerson.2.1 100 = .ok (.invokevirtual 301, 3) := by decide +kernel
theorem dX12_drawPerson_103 : decode YX12_drawPerson.2.1 103 = .ok (.ifCond .ne 9, 3) := by decide +kernel
theorem dX12_drawPerson_106 : decode YX12_drawPerson.2.1 106 = .ok (.aload_n 0, 1) := by decide +kernel
theorem dX12_drawPerson_107 : decode YX12_drawPerson.2.1 107 = .ok (.iload_n 1, 1) := by decide +kernel
theorem dX12_drawPerson_108 : decode YX12_drawPerson.2.1 108 = .ok (.iload_n 3, 1) := by decide +kernel
theorem dX12_drawPerson_109 : decode YX12_drawPerson.2.1 109 = .ok (.invokevirtual 307, 3) := by decide +kernel
theorem dX12_drawPerson_112 : decode YX12_drawPerson.2.1 112 = .ok (.goto 25, 3) := by decide +kernel
theorem dX12_drawPerson_115 : decode YX12_drawPerson.2.1 115 = .ok (.iload_n 2, 1) := by decide +kernel
theorem dX12_drawPerson_116 : decode YX12_drawPerson.2.1 116 = .ok (.iconst 5, 1) := by decide +kernel
theorem dX12_drawPerson_117 : decode YX12_drawPerson.2.1 117 = .ok (.if_icmp .ne 20, 3) := by decide +kernel
theorem dX12_drawPerson_120 : decode YX12_drawPerson.2.1 120 = .ok (.aload_n 0, 1) := by decide +kernel
theorem dX12_drawPerson_121 : decode YX12_drawPerson.2.1 121 = .ok (.getfield 33, 3) := by decide +kernel
theorem dX12_drawPerson_124 : decode YX12_drawPerson.2.1 124 = .ok (.bipush 127, 2) := by decide +kernel
theorem dX12_drawPerson_126 : decode YX12_drawPerson.2.1 126 = .ok (.iload_n 1, 1) := by decide +kernel
theorem dX12_drawPerson_127 : decode YX12_drawPerson.2.1 127 = .ok (.iadd, 1) := by decide +kernel
theorem dX12_drawPerson_128 : decode YX12_drawPerson.2.1 128 = .ok (.iaload, 1) := by decide +kernel
theorem dX12_drawPerson_129 : decode YX12_drawPerson.2.1 129 = .ok (.ifCond .le 8, 3) := by decide +kernel
theorem dX12_drawPerson_132 : decode YX12_drawPerson.2.1 132 = .ok (.aload_n 0, 1) := by decide +kernel
theorem dX12_drawPerson_133 : decode YX12_drawPerson.2.1 133 = .ok (.iload_n 1, 1) := by decide +kernel
theorem dX12_drawPerson_134 : decode YX12_drawPerson.2.1 134 = .ok (.invokevirtual 311, 3) := by decide +kernel
theorem dX12_drawPerson_137 : decode YX12_drawPerson.2.1 137 = .ok (.return_, 1) := by decide +kernel
theorem dX12_drawn_0 : decode YX12_drawn.2.1 0 = .ok (.aload_n 0, 1) := by decide +kernel
theorem dX12_drawn_1 : decode YX12_drawn.2.1 1 = .ok (.iconst 0, 1) := by decide +kernel
theorem dX12_drawn_2 : decode YX12_drawn.2.1 2 = .ok (.putfield 1, 3) := by decide +kernel
theorem dX12_drawn_5 : decode YX12_drawn.2.1 5 = .ok (.iload_n 1, 1) := by decide +kernel
theorem dX12_drawn_6 : decode YX12_drawn.2.1 6 = .ok (.iconst 1, 1) := by decide +kernel
theorem dX12_drawn_7 : decode YX12_drawn.2.1 7 = .ok (.bipush 60, 2) := by decide +kernel
theorem dX12_drawn_9 : decode YX12_drawn.2.1 9 = .ok (.invokestatic 188, 3) := by decide +kernel
theorem dX12_drawn_12 : decode YX12_drawn.2.1 12 = .ok (.ifCond .ne 5, 3) := by decide +kernel
theorem dX12_drawn_15 : decode YX12_drawn.2.1 15 = .ok (.iconst (-1), 1) := by decide +kernel
theorem dX12_drawn_16 : decode YX12_drawn.2.1 16 = .ok (.ireturn, 1) := by decide +kernel
theorem dX12_drawn_17 : decode YX12_drawn.2.1 17 = .ok (.aload_n 0, 1) := by decide +kernel
theorem dX12_drawn_18 : decode YX12_drawn.2.1 18 = .ok (.getfield 33, 3) := by decide +kernel
theorem dX12_drawn_21 : decode YX12_drawn.2.1 21 = .ok (.bipush 89, 2) := by decide +kernel
theorem dX12_drawn_23 : decode YX12_drawn.2.1 23 = .ok (.iaload, 1) := by decide +kernel
theorem dX12_drawn_24 : decode YX12_drawn.2.1 24 = .ok (.sipush 400, 3) := by decide +kernel
theorem dX12_drawn_27 : decode YX12_drawn.2.1 27 = .ok (.if_icmp .ge 7, 3) := by decide +kernel
theorem dX12_drawn_30 : decode YX12_drawn.2.1 30 = .ok (.aload_n 0, 1) := by decide +kernel
theorem dX12_drawn_31 : decode YX12_drawn.2.1 31 = .ok (.invokevirtual 304, 3) := by decide +kernel
theorem dX12_drawn_34 : decode YX12_drawn.2.1 34 = .ok (.aload_n 0, 1) := by decide +kernel
theorem dX12_drawn_35 : decode YX12_drawn.2.1 35 = .ok (.iload_n 1, 1) := by decide +kernel
theorem dX12_drawn_36 : decode YX12_drawn.2.1 36 = .ok (.iload_n 2, 1) := by decide +kernel
theorem dX12_drawn_37 : decode YX12_drawn.2.1 37 = .ok (.invokevirtual 413, 3) := by decide +kernel
theorem dX12_drawn_40 : decode YX12_drawn.2.1 40 = .ok (.ireturn, 1) := by decide +kernel
theorem dX12_draws_0 : decode YX12_draws.2.1 0 = .ok (.aload_n 0, 1) := by decide +kernel
theorem dX12_draws_1 : decode YX12_draws.2.1 1 = .ok (.iload_n 2, 1) := by decide +kernel
theorem dX12_draws_2 : decode YX12_draws.2.1 2 = .ok (.putfield 403, 3) := by decide +kernel
theorem dX12_draws_5 : decode YX12_draws.2.1 5 = .ok (.iconst 0, 1) := by decide +kernel
theorem dX12_draws_6 : decode YX12_draws.2.1 6 = .ok (.istore_n 3, 1) := by decide +kernel
theorem dX12_draws_7 : decode YX12_draws.2.1 7 = .ok (.iload_n 3, 1) := by decide +kernel
theorem dX12_draws_8 : decode YX12_draws.2.1 8 = .ok (.iload_n 1, 1) := by decide +kernel
theorem dX12_draws_9 : decode YX12_draws.2.1 9 = .ok (.if_icmp .ge 52, 3) := by decide +kernel
theorem dX12_draws_12 : decode YX12_draws.2.1 12 = .ok (.aload_n 0, 1) := by decide +kernel
theorem dX12_draws_13 : decode YX12_draws.2.1 13 = .ok (.getfield 33, 3) := by decide +kernel
theorem dX12_draws_16 : decode YX12_draws.2.1 16 = .ok (.bipush 89, 2) := by decide +kernel
theorem dX12_draws_18 : decode YX12_draws.2.1 18 = .ok (.iaload, 1) := by decide +kernel
theorem dX12_draws_19 : decode YX12_draws.2.1 19 = .ok (.sipush 400, 3) := by decide +kernel
theorem dX12_draws_22 : decode YX12_draws.2.1 22 = .ok (.if_icmp .ge 39, 3) := by decide +kernel
theorem dX12_draws_25 : decode YX12_draws.2.1 25 = .ok (.iconst 0, 1) := by decide +kernel
theorem dX12_draws_26 : decode YX12_draws.2.1 26 = .ok (.istore 4, 2) := by decide +kernel
theorem dX12_draws_28 : decode YX12_draws.2.1 28 = .ok (.iload 4, 2) := by decide +kernel
theorem dX12_draws_30 : decode YX12_draws.2.1 30 = .ok (.aload_n 0, 1) := by decide +kernel
theorem dX12_draws_31 : decode YX12_draws.2.1 31 = .ok (.getfield 33, 3) := by decide +kernel
theorem dX12_draws_34 : decode YX12_draws.2.1 34 = .ok (.iconst 2, 1) := by decide +kernel
theorem dX12_draws_35 : decode YX12_draws.2.1 35 = .ok (.iaload, 1) := by decide +kernel
theorem dX12_draws_36 : decode YX12_draws.2.1 36 = .ok (.if_icmp .ge 15, 3) := by decide +kernel
theorem dX12_draws_39 : decode YX12_draws.2.1 39 = .ok (.aload_n 0, 1) := by decide +kernel
theorem dX12_draws_40 : decode YX12_draws.2.1 40 = .ok (.iload 4, 2) := by decide +kernel
theorem dX12_draws_42 : decode YX12_draws.2.1 42 = .ok (.invokevirtual 410, 3) := by decide +kernel
theorem dX12_draws_45 : decode YX12_draws.2.1 45 = .ok (.iinc 4 1, 3) := by decide +kernel
theorem dX12_draws_48 : decode YX12_draws.2.1 48 = .ok (.goto (-20), 3) := by decide +kernel
theorem dX12_draws_51 : decode YX12_draws.2.1 51 = .ok (.aload_n 0, 1) := by decide +kernel
theorem dX12_draws_52 : decode YX12_draws.2.1 52 = .ok (.invokevirtual 298, 3) := by decide +kernel
theorem dX12_draws_55 : decode YX12_draws.2.1 55 = .ok (.iinc 3 1, 3) := by decide +kernel
theorem dX12_draws_58 : decode YX12_draws.2.1 58 = .ok (.goto (-51), 3) := by decide +kernel
theorem dX12_draws_61 : decode YX12_draws.2.1 61 = .ok (.iload_n 3, 1) := by decide +kernel
theorem dX12_draws_62 : decode YX12_draws.2.1 62 = .ok (.ireturn, 1) := by decide +kernel
theorem dX12_drop_0 : decode YX12_drop.2.1 0 = .ok (.aload_n 0, 1) := by decide +kernel
theorem dX12_drop_1 : decode YX12_drop.2.1 1 = .ok (.iconst 0, 1) := by decide +kernel
theorem dX12_drop_2 : decode YX12_drop.2.1 2 = .ok (.putfield 1, 3) := by decide +kernel
theorem dX12_drop_5 : decode YX12_drop.2.1 5 = .ok (.aload_n 0, 1) := by decide +kernel
theorem dX12_drop_6 : decode YX12_drop.2.1 6 = .ok (.iload_n 1, 1) := by decide +kernel
theorem dX12_drop_7 : decode YX12_drop.2.1 7 = .ok (.invokevirtual 270, 3) := by decide +kernel
theorem dX12_drop_10 : decode YX12_drop.2.1 10 = .ok (.ifCond .ne 5, 3) := by decide +kernel
theorem dX12_drop_13 : decode YX12_drop.2.1 13 = .ok (.iconst (-1), 1) := by decide +kernel
theorem dX12_drop_14 : decode YX12_drop.2.1 14 = .ok (.ireturn, 1) := by decide +kernel
theorem dX12_drop_15 : decode YX12_drop.2.1 15 = .ok (.aload_n 0, 1) := by decide +kernel
theorem dX12_drop_16 : decode YX12_drop.2.1 16 = .ok (.getfield 33, 3) := by decide +kernel
theorem dX12_drop_19 : decode YX12_drop.2.1 19 = .ok (.bipush 127, 2) := by decide +kernel
theorem dX12_drop_21 : decode YX12_drop.2.1 21 = .ok (.iload_n 1, 1) := by decide +kernel
theorem dX12_drop_22 : decode YX12_drop.2.1 22 = .ok (.iadd, 1) := by decide +kernel
theorem dX12_drop_23 : decode YX12_drop.2.1 23 = .ok (.iaload, 1) := by decide +kernel
theorem dX12_drop_24 : decode YX12_drop.2.1 24 = .ok (.ifCond .ne 5, 3) := by decide +kernel
theorem dX12_drop_27 : decode YX12_drop.2.1 27 = .ok (.iconst 1, 1) := by decide +kernel
theorem dX12_drop_28 : decode YX12_drop.2.1 28 = .ok (.ireturn, 1) := by decide +kernel
theorem dX12_drop_29 : decode YX12_drop.2.1 29 = .ok (.aload_n 0, 1) := by decide +kernel
theorem dX12_drop_30 : decode YX12_drop.2.1 30 = .ok (.invokevirtual 304, 3) := by decide +kernel
theorem dX12_drop_33 : decode YX12_drop.2.1 33 = .ok (.aload_n 0, 1) := by decide +kernel
theorem dX12_drop_34 : decode YX12_drop.2.1 34 = .ok (.iload_n 1, 1) := by decide +kernel
theorem dX12_drop_35 : decode YX12_drop.2.1 35 = .ok (.invokevirtual 311, 3) := by decide +kernel
theorem dX12_drop_38 : decode YX12_drop.2.1 38 = .ok (.iconst 0, 1) := by decide +kernel
theorem dX12_drop_39 : decode YX12_drop.2.1 39 = .ok (.ireturn, 1) := by decide +kernel
theorem dX12_end_0 : decode YX12_end.2.1 0 = .ok (.aload_n 0, 1) := by decide +kernel
theorem dX12_end_1 : decode YX12_end.2.1 1 = .ok (.iconst 0, 1) := by decide +kernel
theorem dX12_end_2 : decode YX12_end.2.1 2 = .ok (.putfield 1, 3) := by decide +kernel
theorem dX12_end_5 : decode YX12_end.2.1 5 = .ok (.iload_n 1, 1) := by decide +kernel
theorem dX12_end_6 : decode YX12_end.2.1 6 = .ok (.ifCond .lt 11, 3) := by decide +kernel
theorem dX12_end_9 : decode YX12_end.2.1 9 = .ok (.iload_n 1, 1) := by decide +kernel
theorem dX12_end_10 : decode YX12_end.2.1 10 = .ok (.aload_n 0, 1) := by decide +kernel
theorem dX12_end_11 : decode YX12_end.2.1 11 = .ok (.getfield 7, 3) := by decide +kernel
theorem dX12_end_14 : decode YX12_end.2.1 14 = .ok (.if_icmp .le 5, 3) := by decide +kernel
theorem dX12_end_17 : decode YX12_end.2.1 17 = .ok (.iconst 0, 1) := by decide +kernel
theorem dX12_end_18 : decode YX12_end.2.1 18 = .ok (.ireturn, 1) := by decide +kernel
theorem dX12_end_19 : decode YX12_end.2.1 19 = .ok (.aload_n 0, 1) := by decide +kernel
theorem dX12_end_20 : decode YX12_end.2.1 20 = .ok (.iload_n 1, 1) := by decide +kernel
theorem dX12_end_21 : decode YX12_end.2.1 21 = .ok (.putfield 7, 3) := by decide +kernel
theorem dX12_end_24 : decode YX12_end.2.1 24 = .ok (.iconst 1, 1) := by decide +kernel
theorem dX12_end_25 : decode YX12_end.2.1 25 = .ok (.ireturn, 1) := by decide +kernel
theorem dX12_fault_0 : decode YX12_fault.2.1 0 = .ok (.aload_n 0, 1) := by decide +kernel
theorem dX12_fault_1 : decode YX12_fault.2.1 1 = .ok (.iconst 0, 1) := by decide +kernel
theorem dX12_fault_2 : decode YX12_fault.2.1 2 = .ok (.putfield 1, 3) := by decide +kernel
theorem dX12_fault_5 : decode YX12_fault.2.1 5 = .ok (.aload_n 0, 1) := by decide +kernel
theorem dX12_fault_6 : decode YX12_fault.2.1 6 = .ok (.getfield 173, 3) := by decide +kernel
theorem dX12_fault_9 : decode YX12_fault.2.1 9 = .ok (.ireturn, 1) := by decide +kernel
theorem dX12_feed_0 : decode YX12_feed.2.1 0 = .ok (.aload_n 0, 1) := by decide +kernel
theorem dX12_feed_1 : decode YX12_feed.2.1 1 = .ok (.iconst 0, 1) := by decide +kernel
theorem dX12_feed_2 : decode YX12_feed.2.1 2 = .ok (.putfield 1, 3) := by decide +kernel
theorem dX12_feed_5 : decode YX12_feed.2.1 5 = .ok (.aload_n 0, 1) := by decide +kernel
theorem dX12_feed_6 : decode YX12_feed.2.1 6 = .ok (.getfield 7, 3) := by decide +kernel
theorem dX12_feed_9 : decode YX12_feed.2.1 9 = .ok (.bipush 20, 2) := by decide +kernel
theorem dX12_feed_11 : decode YX12_feed.2.1 11 = .ok (.iadd, 1) := by decide +kernel
theorem dX12_feed_12 : decode YX12_feed.2.1 12 = .ok (.sipush 940, 3) := by decide +kernel
theorem dX12_feed_15 : decode YX12_feed.2.1 15 = .ok (.if_icmp .le 5, 3) := by decide +kernel
theorem dX12_feed_18 : decode YX12_feed.2.1 18 = .ok (.iconst (-1), 1) := by decide +kernel
theorem dX12_feed_19 : decode YX12_feed.2.1 19 = .ok (.ireturn, 1) := by decide +kernel
theorem dX12_feed_20 : decode YX12_feed.2.1 20 = .ok (.aload_n 0, 1) := by decide +kernel
theorem dX12_feed_21 : decode YX12_feed.2.1 21 = .ok (.iload_n 1, 1) := by decide +kernel
theorem dX12_feed_22 : decode YX12_feed.2.1 22 = .ok (.invokevirtual 10, 3) := by decide +kernel
theorem dX12_feed_25 : decode YX12_feed.2.1 25 = .ok (.aload_n 0, 1) := by decide +kernel
theorem dX12_feed_26 : decode YX12_feed.2.1 26 = .ok (.iload_n 2, 1) := by decide +kernel
theorem dX12_feed_27 : decode YX12_feed.2.1 27 = .ok (.invokevirtual 10, 3) := by decide +kernel
theorem dX12_feed_30 : decode YX12_feed.2.1 30 = .ok (.aload_n 0, 1) := by decide +kernel
theorem dX12_feed_31 : decode YX12_feed.2.1 31 = .ok (.iload_n 3, 1) := by decide +kernel
theorem dX12_feed_32 : decode YX12_feed.2.1 32 = .ok (.invokevirtual 10, 3) := by decide +kernel
theorem dX12_feed_35 : decode YX12_feed.2.1 35 = .ok (.aload_n 0, 1) := by decide +kernel
theorem dX12_feed_36 : decode YX12_feed.2.1 36 = .ok (.iload 4, 2) := by decide +kernel
theorem dX12_feed_38 : decode YX12_feed.2.1 38 = .ok (.invokevirtual 10, 3) := by decide +kernel
theorem dX12_feed_41 : decode YX12_feed.2.1 41 = .ok (.aload_n 0, 1) := by decide +kernel
theorem dX12_feed_42 : decode YX12_feed.2.1 42 = .ok (.iload 5, 2) := by decide +kernel
theorem dX12_feed_44 : decode YX12_feed.2.1 44 = .ok (.invokevirtual 10, 3) := by decide +kernel
theorem dX12_feed_47 : decode YX12_feed.2.1 47 = .ok (.aload_n 0, 1) := by decide +kernel
theorem dX12_feed_48 : decode YX12_feed.2.1 48 = .ok (.getfield 7, 3) := by decide +kernel
theorem dX12_feed_51 : decode YX12_feed.2.1 51 = .ok (.ireturn, 1) := by decide +kernel
theorem dX12_fits_0 : decode YX12_fits.2.1 0 = .ok (.aload_n 0, 1) := by decide +kernel
theorem dX12_fits_1 : decode YX12_fits.2.1 1 = .ok (.iconst 0, 1) := by decide +kernel
theorem dX12_fits_2 : decode YX12_fits.2.1 2 = .ok (.putfield 1, 3) := by decide +kernel
theorem dX12_fits_5 : decode YX12_fits.2.1 5 = .ok (.aload_n 0, 1) := by decide +kernel
theorem dX12_fits_6 : decode YX12_fits.2.1 6 = .ok (.sipush 940, 3) := by decide +kernel
theorem dX12_fits_9 : decode YX12_fits.2.1 9 = .ok (.invokevirtual 241, 3) := by decide +kernel
theorem dX12_fits_12 : decode YX12_fits.2.1 12 = .ok (.aload_n 0, 1) := by decide +kernel
theorem dX12_fits_13 : decode YX12_fits.2.1 13 = .ok (.getfield 18, 3) := by decide +kernel
theorem dX12_fits_16 : decode YX12_fits.2.1 16 = .ok (.iconst 1, 1) := by decide +kernel
theorem dX12_fits_17 : decode YX12_fits.2.1 17 = .ok (.bipush 6, 2) := by decide +kernel
theorem dX12_fits_19 : decode YX12_fits.2.1 19 = .ok (.invokestatic 188, 3) := by decide +kernel
theorem dX12_fits_22 : decode YX12_fits.2.1 22 = .ok (.ifCond .ne 5, 3) := by decide +kernel
theorem dX12_fits_25 : decode YX12_fits.2.1 25 = .ok (.iconst (-1), 1) := by decide +kernel
theorem dX12_fits_26 : decode YX12_fits.2.1 26 = .ok (.ireturn, 1) := by decide +kernel
theorem dX12_fits_27 : decode YX12_fits.2.1 27 = .ok (.iconst 0, 1) := by decide +kernel
theorem dX12_fits_28 : decode YX12_fits.2.1 28 = .ok (.istore_n 1, 1) := by decide +kernel
theorem dX12_fits_29 : decode YX12_fits.2.1 29 = .ok (.iload_n 1, 1) := by decide +kernel
theorem dX12_fits_30 : decode YX12_fits.2.1 30 = .ok (.aload_n 0, 1) := by decide +kernel
theorem dX12_fits_31 : decode YX12_fits.2.1 31 = .ok (.getfield 18, 3) := by decide +kernel
theorem dX12_fits_34 : decode YX12_fits.2.1 34 = .ok (.if_icmp .ge 34, 3) := by decide +kernel
theorem dX12_fits_37 : decode YX12_fits.2.1 37 = .ok (.aload_n 0, 1) := by decide +kernel
theorem dX12_fits_38 : decode YX12_fits.2.1 38 = .ok (.iload_n 1, 1) := by decide +kernel
theorem dX12_fits_39 : decode YX12_fits.2.1 39 = .ok (.invokevirtual 346, 3) := by decide +kernel
theorem dX12_fits_42 : decode YX12_fits.2.1 42 = .ok (.sipush 255, 3) := by decide +kernel
theorem dX12_fits_45 : decode YX12_fits.2.1 45 = .ok (.if_icmp .eq 17, 3) := by decide +kernel
theorem dX12_fits_48 : decode YX12_fits.2.1 48 = .ok (.aload_n 0, 1) := by decide +kernel
theorem dX12_fits_49 : decode YX12_fits.2.1 49 = .ok (.aload_n 0, 1) := by decide +kernel
theorem dX12_fits_50 : decode YX12_fits.2.1 50 = .ok (.iload_n 1, 1) := by decide +kernel
theorem dX12_fits_51 : decode YX12_fits.2.1 51 = .ok (.invokevirtual 346, 3) := by decide +kernel
theorem dX12_fits_54 : decode YX12_fits.2.1 54 = .ok (.invokevirtual 283, 3) := by decide +kernel
theorem dX12_fits_57 : decode YX12_fits.2.1 57 = .ok (.ifCond .ne 5, 3) := by decide +kernel
theorem dX12_fits_60 : decode YX12_fits.2.1 60 = .ok (.iconst (-1), 1) := by decide +kernel
theorem dX12_fits_61 : decode YX12_fits.2.1 61 = .ok (.ireturn, 1) := by decide +kernel
theorem dX12_fits_62 : decode YX12_fits.2.1 62 = .ok (.iinc 1 1, 3) := by decide +kernel
theorem dX12_fits_65 : decode YX12_fits.2.1 65 = .ok (.goto (-36), 3) := by decide +kernel
theorem dX12_fits_68 : decode YX12_fits.2.1 68 = .ok (.iconst 0, 1) := by decide +kernel
theorem dX12_fits_69 : decode YX12_fits.2.1 69 = .ok (.istore_n 1, 1) := by decide +kernel
theorem dX12_fits_70 : decode YX12_fits.2.1 70 = .ok (.iconst 0, 1) := by decide +kernel
theorem dX12_fits_71 : decode YX12_fits.2.1 71 = .ok (.istore_n 2, 1) := by decide +kernel
theorem dX12_fits_72 : decode YX12_fits.2.1 72 = .ok (.iload_n 2, 1) := by decide +kernel
theorem dX12_fits_73 : decode YX12_fits.2.1 73 = .ok (.aload_n 0, 1) := by decide +kernel
theorem dX12_fits_74 : decode YX12_fits.2.1 74 = .ok (.getfield 33, 3) := by decide +kernel
theorem dX12_fits_77 : decode YX12_fits.2.1 77 = .ok (.iconst 2, 1) := by decide +kernel
theorem dX12_fits_78 : decode YX12_fits.2.1 78 = .ok (.iaload, 1) := by decide +kernel
theorem dX12_fits_79 : decode YX12_fits.2.1 79 = .ok (.if_icmp .ge 27, 3) := by decide +kernel
theorem dX12_fits_82 : decode YX12_fits.2.1 82 = .ok (.iload_n 1, 1) := by decide +kernel
theorem dX12_fits_83 : decode YX12_fits.2.1 83 = .ok (.aload_n 0, 1) := by decide +kernel
theorem dX12_fits_84 : decode YX12_fits.2.1 84 = .ok (.iload_n 2, 1) := by decide +kernel
theorem dX12_fits_85 : decode YX12_fits.2.1 85 = .ok (.invokevirtual 352, 3) := by decide +kernel
theorem dX12_fits_88 : decode YX12_fits.2.1 88 = .ok (.ifCond .eq 9, 3) := by decide +kernel
theorem dX12_fits_91 : decode YX12_fits.2.1 91 = .ok (.iconst 1, 1) := by decide +kernel
theorem dX12_fits_92 : decode YX12_fits.2.1 92 = .ok (.iload_n 2, 1) := by decide +kernel
theorem dX12_fits_93 : decode YX12_fits.2.1 93 = .ok (.ishl, 1) := by decide +kernel
theorem dX12_fits_94 : decode YX12_fits.2.1 94 = .ok (.goto 4, 3) := by decide +kernel
theorem dX12_fits_97 : decode YX12_fits.2.1 97 = .ok (.iconst 0, 1) := by decide +kernel
theorem dX12_fits_98 : decode YX12_fits.2.1 98 = .ok (.ior, 1) := by decide +kernel
theorem dX12_fits_99 : decode YX12_fits.2.1 99 = .ok (.istore_n 1, 1) := by decide +kernel
theorem dX12_fits_100 : decode YX12_fits.2.1 100 = .ok (.iinc 2 1, 3) := by decide +kernel
theorem dX12_fits_103 : decode YX12_fits.2.1 103 = .ok (.goto (-31), 3) := by decide +kernel
theorem dX12_fits_106 : decode YX12_fits.2.1 106 = .ok (.iload_n 1, 1) := by decide +kernel
theorem dX12_fits_107 : decode YX12_fits.2.1 107 = .ok (.ifCond .ne 5, 3) := by decide +kernel
theorem dX12_fits_110 : decode YX12_fits.2.1 110 = .ok (.iconst 0, 1) := by decide +kernel
theorem dX12_fits_111 : decode YX12_fits.2.1 111 = .ok (.ireturn, 1) := by decide +kernel
theorem dX12_fits_112 : decode YX12_fits.2.1 112 = .ok (.aload_n 0, 1) := by decide +kernel
theorem dX12_fits_113 : decode YX12_fits.2.1 113 = .ok (.iconst 1, 1) := by decide +kernel
theorem dX12_fits_114 : decode YX12_fits.2.1 114 = .ok (.putfield 355, 3) := by decide +kernel
theorem dX12_fits_117 : decode YX12_fits.2.1 117 = .ok (.aload_n 0, 1) := by decide +kernel
theorem dX12_fits_118 : decode YX12_fits.2.1 118 = .ok (.iconst 0, 1) := by decide +kernel
theorem dX12_fits_119 : decode YX12_fits.2.1 119 = .ok (.putfield 358, 3) := by decide +kernel
theorem dX12_fits_122 : decode YX12_fits.2.1 122 = .ok (.iconst 1, 1) := by decide +kernel
theorem dX12_fits_123 : decode YX12_fits.2.1 123 = .ok (.istore_n 2, 1) := by decide +kernel
theorem dX12_fits_124 : decode YX12_fits.2.1 124 = .ok (.iload_n 2, 1) := by decide +kernel
theorem dX12_fits_125 : decode YX12_fits.2.1 125 = .ok (.bipush 6, 2) := by decide +kernel
theorem dX12_fits_127 : decode YX12_fits.2.1 127 = .ok (.if_icmp .ge 32, 3) := by decide +kernel
theorem dX12_fits_130 : decode YX12_fits.2.1 130 = .ok (.aload_n 0, 1) := by decide +kernel
theorem dX12_fits_131 : decode YX12_fits.2.1 131 = .ok (.iload_n 1, 1) := by decide +kernel
theorem dX12_fits_132 : decode YX12_fits.2.1 132 = .ok (.iload_n 2, 1) := by decide +kernel
theorem dX12_fits_133 : decode YX12_fits.2.1 133 = .ok (.invokevirtual 361, 3) := by decide +kernel
theorem dX12_fits_136 : decode YX12_fits.2.1 136 = .ok (.aload_n 0, 1) := by decide +kernel
theorem dX12_fits_137 : decode YX12_fits.2.1 137 = .ok (.iload_n 1, 1) := by decide +kernel
theorem dX12_fits_138 : decode YX12_fits.2.1 138 = .ok (.aload_n 0, 1) := by decide +kernel
theorem dX12_fits_139 : decode YX12_fits.2.1 139 = .ok (.getfield 358, 3) := by decide +kernel
theorem dX12_fits_142 : decode YX12_fits.2.1 142 = .ok (.invokevirtual 361, 3) := by decide +kernel
theorem dX12_fits_145 : decode YX12_fits.2.1 145 = .ok (.if_icmp .ge 8, 3) := by decide +kernel
theorem dX12_fits_148 : decode YX12_fits.2.1 148 = .ok (.aload_n 0, 1) := by decide +kernel
theorem dX12_fits_149 : decode YX12_fits.2.1 149 = .ok (.iload_n 2, 1) := by decide +kernel
theorem dX12_fits_150 : decode YX12_fits.2.1 150 = .ok (.putfield 358, 3) := by decide +kernel
theorem dX12_fits_153 : decode YX12_fits.2.1 153 = .ok (.iinc 2 1, 3) := by decide +kernel
theorem dX12_fits_156 : decode YX12_fits.2.1 156 = .ok (.goto (-32), 3) := by decide +kernel
theorem dX12_fits_159 : decode YX12_fits.2.1 159 = .ok (.iload_n 1, 1) := by decide +kernel
theorem dX12_fits_160 : decode YX12_fits.2.1 160 = .ok (.ireturn, 1) := by decide +kernel
theorem dX12_followersOf_0 : decode YX12_followersOf.2.1 0 = .ok (.iconst 0, 1) := by decide +kernel
theorem dX12_followersOf_1 : decode YX12_followersOf.2.1 1 = .ok (.istore_n 2, 1) := by decide +kernel
theorem dX12_followersOf_2 : decode YX12_followersOf.2.1 2 = .ok (.iconst 0, 1) := by decide +kernel
theorem dX12_followersOf_3 : decode YX12_followersOf.2.1 3 = .ok (.istore_n 3, 1) := by decide +kernel
theorem dX12_followersOf_4 : decode YX12_followersOf.2.1 4 = .ok (.iload_n 3, 1) := by decide +kernel
theorem dX12_followersOf_5 : decode YX12_followersOf.2.1 5 = .ok (.aload_n 0, 1) := by decide +kernel
theorem dX12_followersOf_6 : decode YX12_followersOf.2.1 6 = .ok (.getfield 33, 3) := by decide +kernel
theorem dX12_followersOf_9 : decode YX12_followersOf.2.1 9 = .ok (.iconst 2, 1) := by decide +kernel
theorem dX12_followersOf_10 : decode YX12_followersOf.2.1 10 = .ok (.iaload, 1) := by decide +kernel
theorem dX12_followersOf_11 : decode YX12_followersOf.2.1 11 = .ok (.if_icmp .ge 28, 3) := by decide +kernel
theorem dX12_followersOf_14 : decode YX12_followersOf.2.1 14 = .ok (.iload_n 2, 1) := by decide +kernel
theorem dX12_followersOf_15 : decode YX12_followersOf.2.1 15 = .ok (.aload_n 0, 1) := by decide +kernel
theorem dX12_followersOf_16 : decode YX12_followersOf.2.1 16 = .ok (.iload_n 3, 1) := by decide +kernel
theorem dX12_followersOf_17 : decode YX12_followersOf.2.1 17 = .ok (.invokevirtual 266, 3) := by decide +kernel
theorem dX12_followersOf_20 : decode YX12_followersOf.2.1 20 = .ok (.iload_n 1, 1) := by decide +kernel
theorem dX12_followersOf_21 : decode YX12_followersOf.2.1 21 = .ok (.if_icmp .ne 9, 3) := by decide +kernel
theorem dX12_followersOf_24 : decode YX12_followersOf.2.1 24 = .ok (.iconst 1, 1) := by decide +kernel
theorem dX12_followersOf_25 : decode YX12_followersOf.2.1 25 = .ok (.iload_n 3, 1) := by decide +kernel
theorem dX12_followersOf_26 : decode YX12_followersOf.2.1 26 = .ok (.ishl, 1) := by decide +kernel
theorem dX12_followersOf_27 : decode YX12_followersOf.2.1 27 = .ok (.goto 4, 3) := by decide +kernel
theorem dX12_followersOf_30 : decode YX12_followersOf.2.1 30 = .ok (.iconst 0, 1) := by decide +kernel
theorem dX12_followersOf_31 : decode YX12_followersOf.2.1 31 = .ok (.ior, 1) := by decide +kernel
theorem dX12_followersOf_32 : decode YX12_followersOf.2.1 32 = .ok (.istore_n 2, 1) := by decide +kernel
theorem dX12_followersOf_33 : decode YX12_followersOf.2.1 33 = .ok (.iinc 3 1, 3) := by decide +kernel
theorem dX12_followersOf_36 : decode YX12_followersOf.2.1 36 = .ok (.goto (-32), 3) := by decide +kernel
theorem dX12_followersOf_39 : decode YX12_followersOf.2.1 39 = .ok (.iload_n 2, 1) := by decide +kernel
theorem dX12_followersOf_40 : decode YX12_followersOf.2.1 40 = .ok (.ireturn, 1) := by decide +kernel
theorem dX12_four_0 : decode YX12_four.2.1 0 = .ok (.bipush 24, 2) := by decide +kernel
theorem dX12_four_2 : decode YX12_four.2.1 2 = .ok (.istore_n 2, 1) := by decide +kernel
theorem dX12_four_3 : decode YX12_four.2.1 3 = .ok (.iload_n 2, 1) := by decide +kernel
theorem dX12_four_4 : decode YX12_four.2.1 4 = .ok (.ifCond .lt 32, 3) := by decide +kernel
theorem dX12_four_7 : decode YX12_four.2.1 7 = .ok (.aload_n 0, 1) := by decide +kernel
theorem dX12_four_8 : decode YX12_four.2.1 8 = .ok (.getfield 14, 3) := by decide +kernel
theorem dX12_four_11 : decode YX12_four.2.1 11 = .ok (.aload_n 0, 1) := by decide +kernel
theorem dX12_four_12 : decode YX12_four.2.1 12 = .ok (.getfield 7, 3) := by decide +kernel
theorem dX12_four_15 : decode YX12_four.2.1 15 = .ok (.iload_n 1, 1) := by decide +kernel
theorem dX12_four_16 : decode YX12_four.2.1 16 = .ok (.iload_n 2, 1) := by decide +kernel
theorem dX12_four_17 : decode YX12_four.2.1 17 = .ok (.ishr, 1) := by decide +kernel
theorem dX12_four_18 : decode YX12_four.2.1 18 = .ok (.i2b, 1) := by decide +kernel
theorem dX12_four_19 : decode YX12_four.2.1 19 = .ok (.bastore, 1) := by decide +kernel
theorem dX12_four_20 : decode YX12_four.2.1 20 = .ok (.aload_n 0, 1) := by decide +kernel
theorem dX12_four_21 : decode YX12_four.2.1 21 = .ok (.dup, 1) := by decide +kernel
theorem dX12_four_22 : decode YX12_four.2.1 22 = .ok (.getfield 7, 3) := by decide +kernel
theorem dX12_four_25 : decode YX12_four.2.1 25 = .ok (.iconst 1, 1) := by decide +kernel
theorem dX12_four_26 : decode YX12_four.2.1 26 = .ok (.iadd, 1) := by decide +kernel
theorem dX12_four_27 : decode YX12_four.2.1 27 = .ok (.putfield 7, 3) := by decide +kernel
theorem dX12_four_30 : decode YX12_four.2.1 30 = .ok (.iinc 2 (-8), 3) := by decide +kernel
theorem dX12_four_33 : decode YX12_four.2.1 33 = .ok (.goto (-30), 3) := by decide +kernel
theorem dX12_four_36 : decode YX12_four.2.1 36 = .ok (.return_, 1) := by decide +kernel
theorem dX12_fresh_0 : decode YX12_fresh.2.1 0 = .ok (.aload_n 0, 1) := by decide +kernel
theorem dX12_fresh_1 : decode YX12_fresh.2.1 1 = .ok (.invokevirtual 199, 3) := by decide +kernel
theorem dX12_fresh_4 : decode YX12_fresh.2.1 4 = .ok (.ifCond .ne 9, 3) := by decide +kernel
theorem dX12_fresh_7 : decode YX12_fresh.2.1 7 = .ok (.aload_n 0, 1) := by decide +kernel
theorem dX12_fresh_8 : decode YX12_fresh.2.1 8 = .ok (.iconst 1, 1) := by decide +kernel
theorem dX12_fresh_9 : decode YX12_fresh.2.1 9 = .ok (.invokevirtual 182, 3) := by decide +kernel
theorem dX12_fresh_12 : decode YX12_fresh.2.1 12 = .ok (.ireturn, 1) := by decide +kernel
theorem dX12_fresh_13 : decode YX12_fresh.2.1 13 = .ok (.aload_n 0, 1) := by decide +kernel
theorem dX12_fresh_14 : decode YX12_fresh.2.1 14 = .ok (.bipush 14, 2) := by decide +kernel
theorem dX12_fresh_16 : decode YX12_fresh.2.1 16 = .ok (.aload_n 0, 1) := by decide +kernel
theorem dX12_fresh_17 : decode YX12_fresh.2.1 17 = .ok (.getfield 37, 3) := by decide +kernel
theorem dX12_fresh_20 : decode YX12_fresh.2.1 20 = .ok (.iconst 0, 1) := by decide +kernel
theorem dX12_fresh_21 : decode YX12_fresh.2.1 21 = .ok (.iaload, 1) := by decide +kernel
theorem dX12_fresh_22 : decode YX12_fresh.2.1 22 = .ok (.invokevirtual 203, 3) := by decide +kernel
theorem dX12_fresh_25 : decode YX12_fresh.2.1 25 = .ok (.ifCond .ge 18, 3) := by decide +kernel
theorem dX12_fresh_28 : decode YX12_fresh.2.1 28 = .ok (.aload_n 0, 1) := by decide +kernel
theorem dX12_fresh_29 : decode YX12_fresh.2.1 29 = .ok (.bipush 22, 2) := by decide +kernel
theorem dX12_fresh_31 : decode YX12_fresh.2.1 31 = .ok (.aload_n 0, 1) := by decide +kernel
theorem dX12_fresh_32 : decode YX12_fresh.2.1 32 = .ok (.getfield 37, 3) := by decide +kernel
theorem dX12_fresh_35 : decode YX12_fresh.2.1 35 = .ok (.iconst 2, 1) := by decide +kernel
theorem dX12_fresh_36 : decode YX12_fresh.2.1 36 = .ok (.iaload, 1) := by decide +kernel
theorem dX12_fresh_37 : decode YX12_fresh.2.1 37 = .ok (.invokevirtual 203, 3) := by decide +kernel
theorem dX12_fresh_40 : decode YX12_fresh.2.1 40 = .ok (.ifCond .lt 9, 3) := by decide +kernel
theorem dX12_fresh_43 : decode YX12_fresh.2.1 43 = .ok (.aload_n 0, 1) := by decide +kernel
theorem dX12_fresh_44 : decode YX12_fresh.2.1 44 = .ok (.iconst 3, 1) := by decide +kernel
theorem dX12_fresh_45 : decode YX12_fresh.2.1 45 = .ok (.invokevirtual 182, 3) := by decide +kernel
theorem dX12_fresh_48 : decode YX12_fresh.2.1 48 = .ok (.ireturn, 1) := by decide +kernel
theorem dX12_fresh_49 : decode YX12_fresh.2.1 49 = .ok (.aload_n 0, 1) := by decide +kernel
theorem dX12_fresh_50 : decode YX12_fresh.2.1 50 = .ok (.getfield 43, 3) := by decide +kernel
theorem dX12_fresh_53 : decode YX12_fresh.2.1 53 = .ok (.iload_n 1, 1) := by decide +kernel
theorem dX12_fresh_54 : decode YX12_fresh.2.1 54 = .ok (.aload_n 0, 1) := by decide +kernel
theorem dX12_fresh_55 : decode YX12_fresh.2.1 55 = .ok (.getfield 169, 3) := by decide +kernel
theorem dX12_fresh_58 : decode YX12_fresh.2.1 58 = .ok (.lastore, 1) := by decide +kernel
theorem dX12_fresh_59 : decode YX12_fresh.2.1 59 = .ok (.aload_n 0, 1) := by decide +kernel
theorem dX12_fresh_60 : decode YX12_fresh.2.1 60 = .ok (.invokevirtual 185, 3) := by decide +kernel
theorem dX12_fresh_63 : decode YX12_fresh.2.1 63 = .ok (.iconst 1, 1) := by decide +kernel
theorem dX12_fresh_64 : decode YX12_fresh.2.1 64 = .ok (.ireturn, 1) := by decide +kernel
theorem dX12_goesOn_0 : decode YX12_goesOn.2.1 0 = .ok (.iconst 0, 1) := by decide +kernel
theorem dX12_goesOn_1 : decode YX12_goesOn.2.1 1 = .ok (.istore_n 2, 1) := by decide +kernel
theorem dX12_goesOn_2 : decode YX12_goesOn.2.1 2 = .ok (.iload_n 2, 1) := by decide +kernel
theorem dX12_goesOn_3 : decode YX12_goesOn.2.1 3 = .ok (.iload_n 1, 1) := by decide +kernel
theorem dX12_goesOn_4 : decode YX12_goesOn.2.1 4 = .ok (.if_icmp .ge 26, 3) := by decide +kernel
theorem dX12_goesOn_7 : decode YX12_goesOn.2.1 7 = .ok (.aload_n 0, 1) := by decide +kernel
theorem dX12_goesOn_8 : decode YX12_goesOn.2.1 8 = .ok (.getfield 33, 3) := by decide +kernel
theorem dX12_goesOn_11 : decode YX12_goesOn.2.1 11 = .ok (.bipush 89, 2) := by decide +kernel
theorem dX12_goesOn_13 : decode YX12_goesOn.2.1 13 = .ok (.iaload, 1) := by decide +kernel
theorem dX12_goesOn_14 : decode YX12_goesOn.2.1 14 = .ok (.sipush 400, 3) := by decide +kernel
theorem dX12_goesOn_17 : decode YX12_goesOn.2.1 17 = .ok (.if_icmp .ge 13, 3) := by decide +kernel
theorem dX12_goesOn_20 : decode YX12_goesOn.2.1 20 = .ok (.aload_n 0, 1) := by decide +kernel
theorem dX12_goesOn_21 : decode YX12_goesOn.2.1 21 = .ok (.invokevirtual 298, 3) := by decide +kernel
theorem dX12_goesOn_24 : decode YX12_goesOn.2.1 24 = .ok (.iinc 2 1, 3) := by decide +kernel
theorem dX12_goesOn_27 : decode YX12_goesOn.2.1 27 = .ok (.goto (-25), 3) := by decide +kernel
theorem dX12_goesOn_30 : decode YX12_goesOn.2.1 30 = .ok (.iload_n 2, 1) := by decide +kernel
