theorem dX12_goesOn_31 : decode YX12_goesOn.2.1 31 = .ok (.ireturn, 1) := by decide +kernel
theorem dX12_goesTo_0 : decode YX12_goesTo.2.1 0 = .ok (.aload_n 0, 1) := by decide +kernel
theorem dX12_goesTo_1 : decode YX12_goesTo.2.1 1 = .ok (.getfield 33, 3) := by decide +kernel
theorem dX12_goesTo_4 : decode YX12_goesTo.2.1 4 = .ok (.sipush 145, 3) := by decide +kernel
theorem dX12_goesTo_7 : decode YX12_goesTo.2.1 7 = .ok (.iload_n 1, 1) := by decide +kernel
theorem dX12_goesTo_8 : decode YX12_goesTo.2.1 8 = .ok (.iadd, 1) := by decide +kernel
theorem dX12_goesTo_9 : decode YX12_goesTo.2.1 9 = .ok (.iaload, 1) := by decide +kernel
theorem dX12_goesTo_10 : decode YX12_goesTo.2.1 10 = .ok (.ifCond .le 17, 3) := by decide +kernel
theorem dX12_goesTo_13 : decode YX12_goesTo.2.1 13 = .ok (.aload_n 0, 1) := by decide +kernel
theorem dX12_goesTo_14 : decode YX12_goesTo.2.1 14 = .ok (.getfield 33, 3) := by decide +kernel
theorem dX12_goesTo_17 : decode YX12_goesTo.2.1 17 = .ok (.sipush 151, 3) := by decide +kernel
theorem dX12_goesTo_20 : decode YX12_goesTo.2.1 20 = .ok (.bipush 8, 2) := by decide +kernel
theorem dX12_goesTo_22 : decode YX12_goesTo.2.1 22 = .ok (.iload_n 1, 1) := by decide +kernel
theorem dX12_goesTo_23 : decode YX12_goesTo.2.1 23 = .ok (.imul, 1) := by decide +kernel
theorem dX12_goesTo_24 : decode YX12_goesTo.2.1 24 = .ok (.iadd, 1) := by decide +kernel
theorem dX12_goesTo_25 : decode YX12_goesTo.2.1 25 = .ok (.iaload, 1) := by decide +kernel
theorem dX12_goesTo_26 : decode YX12_goesTo.2.1 26 = .ok (.ireturn, 1) := by decide +kernel
theorem dX12_goesTo_27 : decode YX12_goesTo.2.1 27 = .ok (.aload_n 0, 1) := by decide +kernel
theorem dX12_goesTo_28 : decode YX12_goesTo.2.1 28 = .ok (.getfield 33, 3) := by decide +kernel
theorem dX12_goesTo_31 : decode YX12_goesTo.2.1 31 = .ok (.sipush 133, 3) := by decide +kernel
theorem dX12_goesTo_34 : decode YX12_goesTo.2.1 34 = .ok (.iload_n 1, 1) := by decide +kernel
theorem dX12_goesTo_35 : decode YX12_goesTo.2.1 35 = .ok (.iadd, 1) := by decide +kernel
theorem dX12_goesTo_36 : decode YX12_goesTo.2.1 36 = .ok (.iaload, 1) := by decide +kernel
theorem dX12_goesTo_37 : decode YX12_goesTo.2.1 37 = .ok (.ifCond .ne 13, 3) := by decide +kernel
theorem dX12_goesTo_40 : decode YX12_goesTo.2.1 40 = .ok (.aload_n 0, 1) := by decide +kernel
theorem dX12_goesTo_41 : decode YX12_goesTo.2.1 41 = .ok (.getfield 33, 3) := by decide +kernel
theorem dX12_goesTo_44 : decode YX12_goesTo.2.1 44 = .ok (.bipush 91, 2) := by decide +kernel
theorem dX12_goesTo_46 : decode YX12_goesTo.2.1 46 = .ok (.iload_n 1, 1) := by decide +kernel
theorem dX12_goesTo_47 : decode YX12_goesTo.2.1 47 = .ok (.iadd, 1) := by decide +kernel
theorem dX12_goesTo_48 : decode YX12_goesTo.2.1 48 = .ok (.iaload, 1) := by decide +kernel
theorem dX12_goesTo_49 : decode YX12_goesTo.2.1 49 = .ok (.ireturn, 1) := by decide +kernel
theorem dX12_goesTo_50 : decode YX12_goesTo.2.1 50 = .ok (.aload_n 0, 1) := by decide +kernel
theorem dX12_goesTo_51 : decode YX12_goesTo.2.1 51 = .ok (.getfield 33, 3) := by decide +kernel
theorem dX12_goesTo_54 : decode YX12_goesTo.2.1 54 = .ok (.bipush 91, 2) := by decide +kernel
theorem dX12_goesTo_56 : decode YX12_goesTo.2.1 56 = .ok (.bipush 6, 2) := by decide +kernel
theorem dX12_goesTo_58 : decode YX12_goesTo.2.1 58 = .ok (.aload_n 0, 1) := by decide +kernel
theorem dX12_goesTo_59 : decode YX12_goesTo.2.1 59 = .ok (.getfield 33, 3) := by decide +kernel
theorem dX12_goesTo_62 : decode YX12_goesTo.2.1 62 = .ok (.sipush 139, 3) := by decide +kernel
theorem dX12_goesTo_65 : decode YX12_goesTo.2.1 65 = .ok (.iload_n 1, 1) := by decide +kernel
theorem dX12_goesTo_66 : decode YX12_goesTo.2.1 66 = .ok (.iadd, 1) := by decide +kernel
theorem dX12_goesTo_67 : decode YX12_goesTo.2.1 67 = .ok (.iaload, 1) := by decide +kernel
theorem dX12_goesTo_68 : decode YX12_goesTo.2.1 68 = .ok (.iconst 1, 1) := by decide +kernel
theorem dX12_goesTo_69 : decode YX12_goesTo.2.1 69 = .ok (.isub, 1) := by decide +kernel
theorem dX12_goesTo_70 : decode YX12_goesTo.2.1 70 = .ok (.imul, 1) := by decide +kernel
theorem dX12_goesTo_71 : decode YX12_goesTo.2.1 71 = .ok (.iadd, 1) := by decide +kernel
theorem dX12_goesTo_72 : decode YX12_goesTo.2.1 72 = .ok (.aload_n 0, 1) := by decide +kernel
theorem dX12_goesTo_73 : decode YX12_goesTo.2.1 73 = .ok (.iload_n 1, 1) := by decide +kernel
theorem dX12_goesTo_74 : decode YX12_goesTo.2.1 74 = .ok (.invokevirtual 266, 3) := by decide +kernel
theorem dX12_goesTo_77 : decode YX12_goesTo.2.1 77 = .ok (.iadd, 1) := by decide +kernel
theorem dX12_goesTo_78 : decode YX12_goesTo.2.1 78 = .ok (.iaload, 1) := by decide +kernel
theorem dX12_goesTo_79 : decode YX12_goesTo.2.1 79 = .ok (.istore_n 2, 1) := by decide +kernel
theorem dX12_goesTo_80 : decode YX12_goesTo.2.1 80 = .ok (.aload_n 0, 1) := by decide +kernel
theorem dX12_goesTo_81 : decode YX12_goesTo.2.1 81 = .ok (.getfield 50, 3) := by decide +kernel
theorem dX12_goesTo_84 : decode YX12_goesTo.2.1 84 = .ok (.bipush 8, 2) := by decide +kernel
theorem dX12_goesTo_86 : decode YX12_goesTo.2.1 86 = .ok (.aload_n 0, 1) := by decide +kernel
theorem dX12_goesTo_87 : decode YX12_goesTo.2.1 87 = .ok (.getfield 33, 3) := by decide +kernel
theorem dX12_goesTo_90 : decode YX12_goesTo.2.1 90 = .ok (.bipush 91, 2) := by decide +kernel
theorem dX12_goesTo_92 : decode YX12_goesTo.2.1 92 = .ok (.iload_n 1, 1) := by decide +kernel
theorem dX12_goesTo_93 : decode YX12_goesTo.2.1 93 = .ok (.iadd, 1) := by decide +kernel
theorem dX12_goesTo_94 : decode YX12_goesTo.2.1 94 = .ok (.iaload, 1) := by decide +kernel
theorem dX12_goesTo_95 : decode YX12_goesTo.2.1 95 = .ok (.imul, 1) := by decide +kernel
theorem dX12_goesTo_96 : decode YX12_goesTo.2.1 96 = .ok (.iload_n 2, 1) := by decide +kernel
theorem dX12_goesTo_97 : decode YX12_goesTo.2.1 97 = .ok (.iadd, 1) := by decide +kernel
theorem dX12_goesTo_98 : decode YX12_goesTo.2.1 98 = .ok (.iaload, 1) := by decide +kernel
theorem dX12_goesTo_99 : decode YX12_goesTo.2.1 99 = .ok (.ldc_w 262, 3) := by decide +kernel
theorem dX12_goesTo_102 : decode YX12_goesTo.2.1 102 = .ok (.if_icmp .lt 15, 3) := by decide +kernel
theorem dX12_goesTo_105 : decode YX12_goesTo.2.1 105 = .ok (.aload_n 0, 1) := by decide +kernel
theorem dX12_goesTo_106 : decode YX12_goesTo.2.1 106 = .ok (.getfield 33, 3) := by decide +kernel
theorem dX12_goesTo_109 : decode YX12_goesTo.2.1 109 = .ok (.bipush 91, 2) := by decide +kernel
theorem dX12_goesTo_111 : decode YX12_goesTo.2.1 111 = .ok (.iload_n 1, 1) := by decide +kernel
theorem dX12_goesTo_112 : decode YX12_goesTo.2.1 112 = .ok (.iadd, 1) := by decide +kernel
theorem dX12_goesTo_113 : decode YX12_goesTo.2.1 113 = .ok (.iaload, 1) := by decide +kernel
theorem dX12_goesTo_114 : decode YX12_goesTo.2.1 114 = .ok (.goto 17, 3) := by decide +kernel
theorem dX12_goesTo_117 : decode YX12_goesTo.2.1 117 = .ok (.aload_n 0, 1) := by decide +kernel
theorem dX12_goesTo_118 : decode YX12_goesTo.2.1 118 = .ok (.aload_n 0, 1) := by decide +kernel
theorem dX12_goesTo_119 : decode YX12_goesTo.2.1 119 = .ok (.getfield 33, 3) := by decide +kernel
theorem dX12_goesTo_122 : decode YX12_goesTo.2.1 122 = .ok (.bipush 91, 2) := by decide +kernel
theorem dX12_goesTo_124 : decode YX12_goesTo.2.1 124 = .ok (.iload_n 1, 1) := by decide +kernel
theorem dX12_goesTo_125 : decode YX12_goesTo.2.1 125 = .ok (.iadd, 1) := by decide +kernel
theorem dX12_goesTo_126 : decode YX12_goesTo.2.1 126 = .ok (.iaload, 1) := by decide +kernel
theorem dX12_goesTo_127 : decode YX12_goesTo.2.1 127 = .ok (.iload_n 2, 1) := by decide +kernel
theorem dX12_goesTo_128 : decode YX12_goesTo.2.1 128 = .ok (.invokevirtual 292, 3) := by decide +kernel
theorem dX12_goesTo_131 : decode YX12_goesTo.2.1 131 = .ok (.ireturn, 1) := by decide +kernel
theorem dX12_greater_0 : decode YX12_greater.2.1 0 = .ok (.iload_n 0, 1) := by decide +kernel
theorem dX12_greater_1 : decode YX12_greater.2.1 1 = .ok (.iload_n 1, 1) := by decide +kernel
theorem dX12_greater_2 : decode YX12_greater.2.1 2 = .ok (.if_icmp .le 7, 3) := by decide +kernel
theorem dX12_greater_5 : decode YX12_greater.2.1 5 = .ok (.iload_n 0, 1) := by decide +kernel
theorem dX12_greater_6 : decode YX12_greater.2.1 6 = .ok (.goto 4, 3) := by decide +kernel
theorem dX12_greater_9 : decode YX12_greater.2.1 9 = .ok (.iload_n 1, 1) := by decide +kernel
theorem dX12_greater_10 : decode YX12_greater.2.1 10 = .ok (.ireturn, 1) := by decide +kernel
theorem dX12_hire_0 : decode YX12_hire.2.1 0 = .ok (.aload_n 0, 1) := by decide +kernel
theorem dX12_hire_1 : decode YX12_hire.2.1 1 = .ok (.iconst 0, 1) := by decide +kernel
theorem dX12_hire_2 : decode YX12_hire.2.1 2 = .ok (.putfield 1, 3) := by decide +kernel
theorem dX12_hire_5 : decode YX12_hire.2.1 5 = .ok (.aload_n 0, 1) := by decide +kernel
theorem dX12_hire_6 : decode YX12_hire.2.1 6 = .ok (.iload_n 1, 1) := by decide +kernel
theorem dX12_hire_7 : decode YX12_hire.2.1 7 = .ok (.invokevirtual 270, 3) := by decide +kernel
theorem dX12_hire_10 : decode YX12_hire.2.1 10 = .ok (.ifCond .eq 25, 3) := by decide +kernel
theorem dX12_hire_13 : decode YX12_hire.2.1 13 = .ok (.aload_n 0, 1) := by decide +kernel
theorem dX12_hire_14 : decode YX12_hire.2.1 14 = .ok (.iload_n 2, 1) := by decide +kernel
theorem dX12_hire_15 : decode YX12_hire.2.1 15 = .ok (.invokevirtual 270, 3) := by decide +kernel
theorem dX12_hire_18 : decode YX12_hire.2.1 18 = .ok (.ifCond .eq 17, 3) := by decide +kernel
theorem dX12_hire_21 : decode YX12_hire.2.1 21 = .ok (.iload_n 1, 1) := by decide +kernel
theorem dX12_hire_22 : decode YX12_hire.2.1 22 = .ok (.iload_n 2, 1) := by decide +kernel
theorem dX12_hire_23 : decode YX12_hire.2.1 23 = .ok (.if_icmp .eq 12, 3) := by decide +kernel
theorem dX12_hire_26 : decode YX12_hire.2.1 26 = .ok (.iload_n 3, 1) := by decide +kernel
theorem dX12_hire_27 : decode YX12_hire.2.1 27 = .ok (.iconst 1, 1) := by decide +kernel
theorem dX12_hire_28 : decode YX12_hire.2.1 28 = .ok (.iconst 5, 1) := by decide +kernel
theorem dX12_hire_29 : decode YX12_hire.2.1 29 = .ok (.invokestatic 188, 3) := by decide +kernel
theorem dX12_hire_32 : decode YX12_hire.2.1 32 = .ok (.ifCond .ne 5, 3) := by decide +kernel
theorem dX12_hire_35 : decode YX12_hire.2.1 35 = .ok (.iconst (-1), 1) := by decide +kernel
theorem dX12_hire_36 : decode YX12_hire.2.1 36 = .ok (.ireturn, 1) := by decide +kernel
theorem dX12_hire_37 : decode YX12_hire.2.1 37 = .ok (.aload_n 0, 1) := by decide +kernel
theorem dX12_hire_38 : decode YX12_hire.2.1 38 = .ok (.iload_n 2, 1) := by decide +kernel
theorem dX12_hire_39 : decode YX12_hire.2.1 39 = .ok (.invokevirtual 317, 3) := by decide +kernel
theorem dX12_hire_42 : decode YX12_hire.2.1 42 = .ok (.istore 4, 2) := by decide +kernel
theorem dX12_hire_44 : decode YX12_hire.2.1 44 = .ok (.iload 4, 2) := by decide +kernel
theorem dX12_hire_46 : decode YX12_hire.2.1 46 = .ok (.ifCond .le 6, 3) := by decide +kernel
theorem dX12_hire_49 : decode YX12_hire.2.1 49 = .ok (.iload 4, 2) := by decide +kernel
theorem dX12_hire_51 : decode YX12_hire.2.1 51 = .ok (.ireturn, 1) := by decide +kernel
theorem dX12_hire_52 : decode YX12_hire.2.1 52 = .ok (.aload_n 0, 1) := by decide +kernel
theorem dX12_hire_53 : decode YX12_hire.2.1 53 = .ok (.invokevirtual 304, 3) := by decide +kernel
theorem dX12_hire_56 : decode YX12_hire.2.1 56 = .ok (.aload_n 0, 1) := by decide +kernel
theorem dX12_hire_57 : decode YX12_hire.2.1 57 = .ok (.iload_n 1, 1) := by decide +kernel
theorem dX12_hire_58 : decode YX12_hire.2.1 58 = .ok (.iload_n 2, 1) := by decide +kernel
theorem dX12_hire_59 : decode YX12_hire.2.1 59 = .ok (.iload_n 3, 1) := by decide +kernel
theorem dX12_hire_60 : decode YX12_hire.2.1 60 = .ok (.invokevirtual 320, 3) := by decide +kernel
theorem dX12_hire_63 : decode YX12_hire.2.1 63 = .ok (.iconst 0, 1) := by decide +kernel
theorem dX12_hire_64 : decode YX12_hire.2.1 64 = .ok (.ireturn, 1) := by decide +kernel
theorem dX12_hiredBy_0 : decode YX12_hiredBy.2.1 0 = .ok (.aload_n 0, 1) := by decide +kernel
theorem dX12_hiredBy_1 : decode YX12_hiredBy.2.1 1 = .ok (.iconst 0, 1) := by decide +kernel
theorem dX12_hiredBy_2 : decode YX12_hiredBy.2.1 2 = .ok (.putfield 1, 3) := by decide +kernel
theorem dX12_hiredBy_5 : decode YX12_hiredBy.2.1 5 = .ok (.aload_n 0, 1) := by decide +kernel
theorem dX12_hiredBy_6 : decode YX12_hiredBy.2.1 6 = .ok (.getfield 74, 3) := by decide +kernel
theorem dX12_hiredBy_9 : decode YX12_hiredBy.2.1 9 = .ok (.ifCond .lt 12, 3) := by decide +kernel
theorem dX12_hiredBy_12 : decode YX12_hiredBy.2.1 12 = .ok (.iload_n 1, 1) := by decide +kernel
theorem dX12_hiredBy_13 : decode YX12_hiredBy.2.1 13 = .ok (.iconst 0, 1) := by decide +kernel
theorem dX12_hiredBy_14 : decode YX12_hiredBy.2.1 14 = .ok (.iconst 5, 1) := by decide +kernel
theorem dX12_hiredBy_15 : decode YX12_hiredBy.2.1 15 = .ok (.invokestatic 188, 3) := by decide +kernel
theorem dX12_hiredBy_18 : decode YX12_hiredBy.2.1 18 = .ok (.ifCond .ne 7, 3) := by decide +kernel
theorem dX12_hiredBy_21 : decode YX12_hiredBy.2.1 21 = .ok (.iconst (-1), 1) := by decide +kernel
theorem dX12_hiredBy_22 : decode YX12_hiredBy.2.1 22 = .ok (.goto 9, 3) := by decide +kernel
theorem dX12_hiredBy_25 : decode YX12_hiredBy.2.1 25 = .ok (.aload_n 0, 1) := by decide +kernel
theorem dX12_hiredBy_26 : decode YX12_hiredBy.2.1 26 = .ok (.getfield 71, 3) := by decide +kernel
theorem dX12_hiredBy_29 : decode YX12_hiredBy.2.1 29 = .ok (.iload_n 1, 1) := by decide +kernel
theorem dX12_hiredBy_30 : decode YX12_hiredBy.2.1 30 = .ok (.iaload, 1) := by decide +kernel
theorem dX12_hiredBy_31 : decode YX12_hiredBy.2.1 31 = .ok (.ireturn, 1) := by decide +kernel
theorem dX12_hires_0 : decode YX12_hires.2.1 0 = .ok (.aload_n 0, 1) := by decide +kernel
theorem dX12_hires_1 : decode YX12_hires.2.1 1 = .ok (.iconst 0, 1) := by decide +kernel
theorem dX12_hires_2 : decode YX12_hires.2.1 2 = .ok (.putfield 1, 3) := by decide +kernel
theorem dX12_hires_5 : decode YX12_hires.2.1 5 = .ok (.iconst 0, 1) := by decide +kernel
theorem dX12_hires_6 : decode YX12_hires.2.1 6 = .ok (.istore_n 1, 1) := by decide +kernel
theorem dX12_hires_7 : decode YX12_hires.2.1 7 = .ok (.iload_n 1, 1) := by decide +kernel
theorem dX12_hires_8 : decode YX12_hires.2.1 8 = .ok (.bipush 64, 2) := by decide +kernel
theorem dX12_hires_10 : decode YX12_hires.2.1 10 = .ok (.if_icmp .ge 26, 3) := by decide +kernel
theorem dX12_hires_13 : decode YX12_hires.2.1 13 = .ok (.aload_n 0, 1) := by decide +kernel
theorem dX12_hires_14 : decode YX12_hires.2.1 14 = .ok (.getfield 68, 3) := by decide +kernel
theorem dX12_hires_17 : decode YX12_hires.2.1 17 = .ok (.bipush 64, 2) := by decide +kernel
theorem dX12_hires_19 : decode YX12_hires.2.1 19 = .ok (.aload_n 0, 1) := by decide +kernel
theorem dX12_hires_20 : decode YX12_hires.2.1 20 = .ok (.getfield 33, 3) := by decide +kernel
theorem dX12_hires_23 : decode YX12_hires.2.1 23 = .ok (.iconst 2, 1) := by decide +kernel
theorem dX12_hires_24 : decode YX12_hires.2.1 24 = .ok (.iaload, 1) := by decide +kernel
theorem dX12_hires_25 : decode YX12_hires.2.1 25 = .ok (.imul, 1) := by decide +kernel
theorem dX12_hires_26 : decode YX12_hires.2.1 26 = .ok (.iload_n 1, 1) := by decide +kernel
theorem dX12_hires_27 : decode YX12_hires.2.1 27 = .ok (.iadd, 1) := by decide +kernel
theorem dX12_hires_28 : decode YX12_hires.2.1 28 = .ok (.iconst 0, 1) := by decide +kernel
theorem dX12_hires_29 : decode YX12_hires.2.1 29 = .ok (.iastore, 1) := by decide +kernel
theorem dX12_hires_30 : decode YX12_hires.2.1 30 = .ok (.iinc 1 1, 3) := by decide +kernel
theorem dX12_hires_33 : decode YX12_hires.2.1 33 = .ok (.goto (-26), 3) := by decide +kernel
theorem dX12_hires_36 : decode YX12_hires.2.1 36 = .ok (.aload_n 0, 1) := by decide +kernel
theorem dX12_hires_37 : decode YX12_hires.2.1 37 = .ok (.getfield 33, 3) := by decide +kernel
theorem dX12_hires_40 : decode YX12_hires.2.1 40 = .ok (.iconst 2, 1) := by decide +kernel
theorem dX12_hires_41 : decode YX12_hires.2.1 41 = .ok (.iaload, 1) := by decide +kernel
theorem dX12_hires_42 : decode YX12_hires.2.1 42 = .ok (.iconst 1, 1) := by decide +kernel
theorem dX12_hires_43 : decode YX12_hires.2.1 43 = .ok (.isub, 1) := by decide +kernel
theorem dX12_hires_44 : decode YX12_hires.2.1 44 = .ok (.istore_n 1, 1) := by decide +kernel
theorem dX12_hires_45 : decode YX12_hires.2.1 45 = .ok (.iload_n 1, 1) := by decide +kernel
theorem dX12_hires_46 : decode YX12_hires.2.1 46 = .ok (.ifCond .lt 94, 3) := by decide +kernel
theorem dX12_hires_49 : decode YX12_hires.2.1 49 = .ok (.iconst 0, 1) := by decide +kernel
theorem dX12_hires_50 : decode YX12_hires.2.1 50 = .ok (.istore_n 2, 1) := by decide +kernel
theorem dX12_hires_51 : decode YX12_hires.2.1 51 = .ok (.iload_n 2, 1) := by decide +kernel
theorem dX12_hires_52 : decode YX12_hires.2.1 52 = .ok (.bipush 64, 2) := by decide +kernel
theorem dX12_hires_54 : decode YX12_hires.2.1 54 = .ok (.if_icmp .ge 80, 3) := by decide +kernel
theorem dX12_hires_57 : decode YX12_hires.2.1 57 = .ok (.aload_n 0, 1) := by decide +kernel
theorem dX12_hires_58 : decode YX12_hires.2.1 58 = .ok (.iload_n 1, 1) := by decide +kernel
theorem dX12_hires_59 : decode YX12_hires.2.1 59 = .ok (.iload_n 2, 1) := by decide +kernel
theorem dX12_hires_60 : decode YX12_hires.2.1 60 = .ok (.iconst (-1), 1) := by decide +kernel
theorem dX12_hires_61 : decode YX12_hires.2.1 61 = .ok (.invokevirtual 376, 3) := by decide +kernel
theorem dX12_hires_64 : decode YX12_hires.2.1 64 = .ok (.istore_n 3, 1) := by decide +kernel
theorem dX12_hires_65 : decode YX12_hires.2.1 65 = .ok (.aload_n 0, 1) := by decide +kernel
theorem dX12_hires_66 : decode YX12_hires.2.1 66 = .ok (.iload_n 1, 1) := by decide +kernel
theorem dX12_hires_67 : decode YX12_hires.2.1 67 = .ok (.iload_n 2, 1) := by decide +kernel
theorem dX12_hires_68 : decode YX12_hires.2.1 68 = .ok (.invokevirtual 380, 3) := by decide +kernel
theorem dX12_hires_71 : decode YX12_hires.2.1 71 = .ok (.istore 4, 2) := by decide +kernel
theorem dX12_hires_73 : decode YX12_hires.2.1 73 = .ok (.iconst 0, 1) := by decide +kernel
theorem dX12_hires_74 : decode YX12_hires.2.1 74 = .ok (.istore 5, 2) := by decide +kernel
theorem dX12_hires_76 : decode YX12_hires.2.1 76 = .ok (.iload 5, 2) := by decide +kernel
theorem dX12_hires_78 : decode YX12_hires.2.1 78 = .ok (.aload_n 0, 1) := by decide +kernel
theorem dX12_hires_79 : decode YX12_hires.2.1 79 = .ok (.getfield 33, 3) := by decide +kernel
theorem dX12_hires_82 : decode YX12_hires.2.1 82 = .ok (.iconst 2, 1) := by decide +kernel
theorem dX12_hires_83 : decode YX12_hires.2.1 83 = .ok (.iaload, 1) := by decide +kernel
theorem dX12_hires_84 : decode YX12_hires.2.1 84 = .ok (.if_icmp .ge 32, 3) := by decide +kernel
theorem dX12_hires_87 : decode YX12_hires.2.1 87 = .ok (.iload 4, 2) := by decide +kernel
theorem dX12_hires_89 : decode YX12_hires.2.1 89 = .ok (.iload 5, 2) := by decide +kernel
theorem dX12_hires_91 : decode YX12_hires.2.1 91 = .ok (.invokestatic 235, 3) := by decide +kernel
theorem dX12_hires_94 : decode YX12_hires.2.1 94 = .ok (.ifCond .eq 16, 3) := by decide +kernel
theorem dX12_hires_97 : decode YX12_hires.2.1 97 = .ok (.iload_n 3, 1) := by decide +kernel
theorem dX12_hires_98 : decode YX12_hires.2.1 98 = .ok (.aload_n 0, 1) := by decide +kernel
theorem dX12_hires_99 : decode YX12_hires.2.1 99 = .ok (.iload_n 1, 1) := by decide +kernel
theorem dX12_hires_100 : decode YX12_hires.2.1 100 = .ok (.iload_n 2, 1) := by decide +kernel
theorem dX12_hires_101 : decode YX12_hires.2.1 101 = .ok (.iload 5, 2) := by decide +kernel
theorem dX12_hires_103 : decode YX12_hires.2.1 103 = .ok (.invokevirtual 376, 3) := by decide +kernel
theorem dX12_hires_106 : decode YX12_hires.2.1 106 = .ok (.invokestatic 349, 3) := by decide +kernel
theorem dX12_hires_109 : decode YX12_hires.2.1 109 = .ok (.istore_n 3, 1) := by decide +kernel
theorem dX12_hires_110 : decode YX12_hires.2.1 110 = .ok (.iinc 5 1, 3) := by decide +kernel
theorem dX12_hires_113 : decode YX12_hires.2.1 113 = .ok (.goto (-37), 3) := by decide +kernel
theorem dX12_hires_116 : decode YX12_hires.2.1 116 = .ok (.aload_n 0, 1) := by decide +kernel
theorem dX12_hires_117 : decode YX12_hires.2.1 117 = .ok (.getfield 68, 3) := by decide +kernel
theorem dX12_hires_120 : decode YX12_hires.2.1 120 = .ok (.bipush 64, 2) := by decide +kernel
theorem dX12_hires_122 : decode YX12_hires.2.1 122 = .ok (.iload_n 1, 1) := by decide +kernel
theorem dX12_hires_123 : decode YX12_hires.2.1 123 = .ok (.imul, 1) := by decide +kernel
theorem dX12_hires_124 : decode YX12_hires.2.1 124 = .ok (.iload_n 2, 1) := by decide +kernel
theorem dX12_hires_125 : decode YX12_hires.2.1 125 = .ok (.iadd, 1) := by decide +kernel
theorem dX12_hires_126 : decode YX12_hires.2.1 126 = .ok (.iload_n 3, 1) := by decide +kernel
theorem dX12_hires_127 : decode YX12_hires.2.1 127 = .ok (.iastore, 1) := by decide +kernel
theorem dX12_hires_128 : decode YX12_hires.2.1 128 = .ok (.iinc 2 1, 3) := by decide +kernel
theorem dX12_hires_131 : decode YX12_hires.2.1 131 = .ok (.goto (-80), 3) := by decide +kernel
theorem dX12_hires_134 : decode YX12_hires.2.1 134 = .ok (.iinc 1 (-1), 3) := by decide +kernel
theorem dX12_hires_137 : decode YX12_hires.2.1 137 = .ok (.goto (-92), 3) := by decide +kernel
theorem dX12_hires_140 : decode YX12_hires.2.1 140 = .ok (.aload_n 0, 1) := by decide +kernel
theorem dX12_hires_141 : decode YX12_hires.2.1 141 = .ok (.iconst 0, 1) := by decide +kernel
theorem dX12_hires_142 : decode YX12_hires.2.1 142 = .ok (.putfield 74, 3) := by decide +kernel
theorem dX12_hires_145 : decode YX12_hires.2.1 145 = .ok (.aload_n 0, 1) := by decide +kernel
theorem dX12_hires_146 : decode YX12_hires.2.1 146 = .ok (.iconst 0, 1) := by decide +kernel
theorem dX12_hires_147 : decode YX12_hires.2.1 147 = .ok (.putfield 383, 3) := by decide +kernel
theorem dX12_hires_150 : decode YX12_hires.2.1 150 = .ok (.iconst 0, 1) := by decide +kernel
theorem dX12_hires_151 : decode YX12_hires.2.1 151 = .ok (.istore_n 1, 1) := by decide +kernel
theorem dX12_hires_152 : decode YX12_hires.2.1 152 = .ok (.iconst 0, 1) := by decide +kernel
theorem dX12_hires_153 : decode YX12_hires.2.1 153 = .ok (.istore_n 2, 1) := by decide +kernel
theorem dX12_hires_154 : decode YX12_hires.2.1 154 = .ok (.iload_n 2, 1) := by decide +kernel
theorem dX12_hires_155 : decode YX12_hires.2.1 155 = .ok (.bipush 6, 2) := by decide +kernel
theorem dX12_hires_157 : decode YX12_hires.2.1 157 = .ok (.if_icmp .ge 170, 3) := by decide +kernel
theorem dX12_hires_160 : decode YX12_hires.2.1 160 = .ok (.aload_n 0, 1) := by decide +kernel
theorem dX12_hires_161 : decode YX12_hires.2.1 161 = .ok (.getfield 71, 3) := by decide +kernel
theorem dX12_hires_164 : decode YX12_hires.2.1 164 = .ok (.iload_n 2, 1) := by decide +kernel
theorem dX12_hires_165 : decode YX12_hires.2.1 165 = .ok (.iconst (-1), 1) := by decide +kernel
theorem dX12_hires_166 : decode YX12_hires.2.1 166 = .ok (.iastore, 1) := by decide +kernel
theorem dX12_hires_167 : decode YX12_hires.2.1 167 = .ok (.iload_n 2, 1) := by decide +kernel
theorem dX12_hires_168 : decode YX12_hires.2.1 168 = .ok (.aload_n 0, 1) := by decide +kernel
theorem dX12_hires_169 : decode YX12_hires.2.1 169 = .ok (.getfield 33, 3) := by decide +kernel
theorem dX12_hires_172 : decode YX12_hires.2.1 172 = .ok (.iconst 2, 1) := by decide +kernel
theorem dX12_hires_173 : decode YX12_hires.2.1 173 = .ok (.iaload, 1) := by decide +kernel
theorem dX12_hires_174 : decode YX12_hires.2.1 174 = .ok (.if_icmp .lt 6, 3) := by decide +kernel
theorem dX12_hires_177 : decode YX12_hires.2.1 177 = .ok (.goto 144, 3) := by decide +kernel
theorem dX12_hires_180 : decode YX12_hires.2.1 180 = .ok (.aload_n 0, 1) := by decide +kernel
theorem dX12_hires_181 : decode YX12_hires.2.1 181 = .ok (.iload_n 2, 1) := by decide +kernel
theorem dX12_hires_182 : decode YX12_hires.2.1 182 = .ok (.iload_n 1, 1) := by decide +kernel
theorem dX12_hires_183 : decode YX12_hires.2.1 183 = .ok (.invokevirtual 380, 3) := by decide +kernel
theorem dX12_hires_186 : decode YX12_hires.2.1 186 = .ok (.istore_n 3, 1) := by decide +kernel
theorem dX12_hires_187 : decode YX12_hires.2.1 187 = .ok (.aload_n 0, 1) := by decide +kernel
theorem dX12_hires_188 : decode YX12_hires.2.1 188 = .ok (.getfield 33, 3) := by decide +kernel
theorem dX12_hires_191 : decode YX12_hires.2.1 191 = .ok (.iconst 2, 1) := by decide +kernel
theorem dX12_hires_192 : decode YX12_hires.2.1 192 = .ok (.iaload, 1) := by decide +kernel
theorem dX12_hires_193 : decode YX12_hires.2.1 193 = .ok (.iconst 1, 1) := by decide +kernel
theorem dX12_hires_194 : decode YX12_hires.2.1 194 = .ok (.isub, 1) := by decide +kernel
theorem dX12_hires_195 : decode YX12_hires.2.1 195 = .ok (.istore 4, 2) := by decide +kernel
theorem dX12_hires_197 : decode YX12_hires.2.1 197 = .ok (.iload 4, 2) := by decide +kernel
theorem dX12_hires_199 : decode YX12_hires.2.1 199 = .ok (.ifCond .lt 48, 3) := by decide +kernel
theorem dX12_hires_202 : decode YX12_hires.2.1 202 = .ok (.iload_n 3, 1) := by decide +kernel
theorem dX12_hires_203 : decode YX12_hires.2.1 203 = .ok (.iload 4, 2) := by decide +kernel
theorem dX12_hires_205 : decode YX12_hires.2.1 205 = .ok (.invokestatic 235, 3) := by decide +kernel
theorem dX12_hires_208 : decode YX12_hires.2.1 208 = .ok (.ifCond .eq 33, 3) := by decide +kernel
theorem dX12_hires_211 : decode YX12_hires.2.1 211 = .ok (.aload_n 0, 1) := by decide +kernel
theorem dX12_hires_212 : decode YX12_hires.2.1 212 = .ok (.iload_n 2, 1) := by decide +kernel
theorem dX12_hires_213 : decode YX12_hires.2.1 213 = .ok (.iload_n 1, 1) := by decide +kernel
theorem dX12_hires_214 : decode YX12_hires.2.1 214 = .ok (.iload 4, 2) := by decide +kernel
theorem dX12_hires_216 : decode YX12_hires.2.1 216 = .ok (.invokevirtual 376, 3) := by decide +kernel
theorem dX12_hires_219 : decode YX12_hires.2.1 219 = .ok (.aload_n 0, 1) := by decide +kernel
theorem dX12_hires_220 : decode YX12_hires.2.1 220 = .ok (.getfield 68, 3) := by decide +kernel
theorem dX12_hires_223 : decode YX12_hires.2.1 223 = .ok (.bipush 64, 2) := by decide +kernel
theorem dX12_hires_225 : decode YX12_hires.2.1 225 = .ok (.iload_n 2, 1) := by decide +kernel
theorem dX12_hires_226 : decode YX12_hires.2.1 226 = .ok (.imul, 1) := by decide +kernel
theorem dX12_hires_227 : decode YX12_hires.2.1 227 = .ok (.iload_n 1, 1) := by decide +kernel
theorem dX12_hires_228 : decode YX12_hires.2.1 228 = .ok (.iadd, 1) := by decide +kernel
theorem dX12_hires_229 : decode YX12_hires.2.1 229 = .ok (.iaload, 1) := by decide +kernel
theorem dX12_hires_230 : decode YX12_hires.2.1 230 = .ok (.if_icmp .ne 11, 3) := by decide +kernel
theorem dX12_hires_233 : decode YX12_hires.2.1 233 = .ok (.aload_n 0, 1) := by decide +kernel
theorem dX12_hires_234 : decode YX12_hires.2.1 234 = .ok (.getfield 71, 3) := by decide +kernel
theorem dX12_hires_237 : decode YX12_hires.2.1 237 = .ok (.iload_n 2, 1) := by decide +kernel
theorem dX12_hires_238 : decode YX12_hires.2.1 238 = .ok (.iload 4, 2) := by decide +kernel
theorem dX12_hires_240 : decode YX12_hires.2.1 240 = .ok (.iastore, 1) := by decide +kernel
theorem dX12_hires_241 : decode YX12_hires.2.1 241 = .ok (.iinc 4 (-1), 3) := by decide +kernel
theorem dX12_hires_244 : decode YX12_hires.2.1 244 = .ok (.goto (-47), 3) := by decide +kernel
theorem dX12_hires_247 : decode YX12_hires.2.1 247 = .ok (.aload_n 0, 1) := by decide +kernel
theorem dX12_hires_248 : decode YX12_hires.2.1 248 = .ok (.getfield 71, 3) := by decide +kernel
theorem dX12_hires_251 : decode YX12_hires.2.1 251 = .ok (.iload_n 2, 1) := by decide +kernel
theorem dX12_hires_252 : decode YX12_hires.2.1 252 = .ok (.iaload, 1) := by decide +kernel
theorem dX12_hires_253 : decode YX12_hires.2.1 253 = .ok (.ifCond .ge 6, 3) := by decide +kernel
theorem dX12_hires_256 : decode YX12_hires.2.1 256 = .ok (.goto 65, 3) := by decide +kernel
theorem dX12_hires_259 : decode YX12_hires.2.1 259 = .ok (.iload_n 1, 1) := by decide +kernel
theorem dX12_hires_260 : decode YX12_hires.2.1 260 = .ok (.iconst 1, 1) := by decide +kernel
theorem dX12_hires_261 : decode YX12_hires.2.1 261 = .ok (.aload_n 0, 1) := by decide +kernel
theorem dX12_hires_262 : decode YX12_hires.2.1 262 = .ok (.getfield 71, 3) := by decide +kernel
theorem dX12_hires_265 : decode YX12_hires.2.1 265 = .ok (.iload_n 2, 1) := by decide +kernel
theorem dX12_hires_266 : decode YX12_hires.2.1 266 = .ok (.iaload, 1) := by decide +kernel
theorem dX12_hires_267 : decode YX12_hires.2.1 267 = .ok (.ishl, 1) := by decide +kernel
theorem dX12_hires_268 : decode YX12_hires.2.1 268 = .ok (.ior, 1) := by decide +kernel
theorem dX12_hires_269 : decode YX12_hires.2.1 269 = .ok (.istore_n 1, 1) := by decide +kernel
theorem dX12_hires_270 : decode YX12_hires.2.1 270 = .ok (.aload_n 0, 1) := by decide +kernel
theorem dX12_hires_271 : decode YX12_hires.2.1 271 = .ok (.dup, 1) := by decide +kernel
theorem dX12_hires_272 : decode YX12_hires.2.1 272 = .ok (.getfield 74, 3) := by decide +kernel
theorem dX12_hires_275 : decode YX12_hires.2.1 275 = .ok (.iconst 1, 1) := by decide +kernel
theorem dX12_hires_276 : decode YX12_hires.2.1 276 = .ok (.iadd, 1) := by decide +kernel
theorem dX12_hires_277 : decode YX12_hires.2.1 277 = .ok (.putfield 74, 3) := by decide +kernel
theorem dX12_hires_280 : decode YX12_hires.2.1 280 = .ok (.aload_n 0, 1) := by decide +kernel
theorem dX12_hires_281 : decode YX12_hires.2.1 281 = .ok (.dup, 1) := by decide +kernel
theorem dX12_hires_282 : decode YX12_hires.2.1 282 = .ok (.getfield 383, 3) := by decide +kernel
theorem dX12_hires_285 : decode YX12_hires.2.1 285 = .ok (.aload_n 0, 1) := by decide +kernel
theorem dX12_hires_286 : decode YX12_hires.2.1 286 = .ok (.getfield 50, 3) := by decide +kernel
theorem dX12_hires_289 : decode YX12_hires.2.1 289 = .ok (.bipush 8, 2) := by decide +kernel
theorem dX12_hires_291 : decode YX12_hires.2.1 291 = .ok (.aload_n 0, 1) := by decide +kernel
theorem dX12_hires_292 : decode YX12_hires.2.1 292 = .ok (.getfield 33, 3) := by decide +kernel
theorem dX12_hires_295 : decode YX12_hires.2.1 295 = .ok (.bipush 91, 2) := by decide +kernel
theorem dX12_hires_297 : decode YX12_hires.2.1 297 = .ok (.aload_n 0, 1) := by decide +kernel
theorem dX12_hires_298 : decode YX12_hires.2.1 298 = .ok (.getfield 71, 3) := by decide +kernel
theorem dX12_hires_301 : decode YX12_hires.2.1 301 = .ok (.iload_n 2, 1) := by decide +kernel
theorem dX12_hires_302 : decode YX12_hires.2.1 302 = .ok (.iaload, 1) := by decide +kernel
theorem dX12_hires_303 : decode YX12_hires.2.1 303 = .ok (.iadd, 1) := by decide +kernel
theorem dX12_hires_304 : decode YX12_hires.2.1 304 = .ok (.iaload, 1) := by decide +kernel
theorem dX12_hires_305 : decode YX12_hires.2.1 305 = .ok (.imul, 1) := by decide +kernel
theorem dX12_hires_306 : decode YX12_hires.2.1 306 = .ok (.aload_n 0, 1) := by decide +kernel
theorem dX12_hires_307 : decode YX12_hires.2.1 307 = .ok (.getfield 33, 3) := by decide +kernel
theorem dX12_hires_310 : decode YX12_hires.2.1 310 = .ok (.bipush 91, 2) := by decide +kernel
theorem dX12_hires_312 : decode YX12_hires.2.1 312 = .ok (.iload_n 2, 1) := by decide +kernel
theorem dX12_hires_313 : decode YX12_hires.2.1 313 = .ok (.iadd, 1) := by decide +kernel
theorem dX12_hires_314 : decode YX12_hires.2.1 314 = .ok (.iaload, 1) := by decide +kernel
theorem dX12_hires_315 : decode YX12_hires.2.1 315 = .ok (.iadd, 1) := by decide +kernel
theorem dX12_hires_316 : decode YX12_hires.2.1 316 = .ok (.iaload, 1) := by decide +kernel
theorem dX12_hires_317 : decode YX12_hires.2.1 317 = .ok (.iadd, 1) := by decide +kernel
theorem dX12_hires_318 : decode YX12_hires.2.1 318 = .ok (.putfield 383, 3) := by decide +kernel
theorem dX12_hires_321 : decode YX12_hires.2.1 321 = .ok (.iinc 2 1, 3) := by decide +kernel
theorem dX12_hires_324 : decode YX12_hires.2.1 324 = .ok (.goto (-170), 3) := by decide +kernel
theorem dX12_hires_327 : decode YX12_hires.2.1 327 = .ok (.aload_n 0, 1) := by decide +kernel
theorem dX12_hires_328 : decode YX12_hires.2.1 328 = .ok (.getfield 74, 3) := by decide +kernel
theorem dX12_hires_331 : decode YX12_hires.2.1 331 = .ok (.ireturn, 1) := by decide +kernel
theorem dX12_hiresFar_0 : decode YX12_hiresFar.2.1 0 = .ok (.aload_n 0, 1) := by decide +kernel
theorem dX12_hiresFar_1 : decode YX12_hiresFar.2.1 1 = .ok (.iconst 0, 1) := by decide +kernel
theorem dX12_hiresFar_2 : decode YX12_hiresFar.2.1 2 = .ok (.putfield 1, 3) := by decide +kernel
theorem dX12_hiresFar_5 : decode YX12_hiresFar.2.1 5 = .ok (.aload_n 0, 1) := by decide +kernel
theorem dX12_hiresFar_6 : decode YX12_hiresFar.2.1 6 = .ok (.getfield 74, 3) := by decide +kernel
theorem dX12_hiresFar_9 : decode YX12_hiresFar.2.1 9 = .ok (.ifCond .ge 7, 3) := by decide +kernel
theorem dX12_hiresFar_12 : decode YX12_hiresFar.2.1 12 = .ok (.iconst (-1), 1) := by decide +kernel
theorem dX12_hiresFar_13 : decode YX12_hiresFar.2.1 13 = .ok (.goto 7, 3) := by decide +kernel
theorem dX12_hiresFar_16 : decode YX12_hiresFar.2.1 16 = .ok (.aload_n 0, 1) := by decide +kernel
theorem dX12_hiresFar_17 : decode YX12_hiresFar.2.1 17 = .ok (.getfield 383, 3) := by decide +kernel
theorem dX12_hiresFar_20 : decode YX12_hiresFar.2.1 20 = .ok (.ireturn, 1) := by decide +kernel
theorem dX12_image_0 : decode YX12_image.2.1 0 = .ok (.aload_n 0, 1) := by decide +kernel
theorem dX12_image_1 : decode YX12_image.2.1 1 = .ok (.iconst 0, 1) := by decide +kernel
theorem dX12_image_2 : decode YX12_image.2.1 2 = .ok (.putfield 1, 3) := by decide +kernel
theorem dX12_image_5 : decode YX12_image.2.1 5 = .ok (.iload_n 1, 1) := by decide +kernel
theorem dX12_image_6 : decode YX12_image.2.1 6 = .ok (.iconst 0, 1) := by decide +kernel
theorem dX12_image_7 : decode YX12_image.2.1 7 = .ok (.iconst 1, 1) := by decide +kernel
theorem dX12_image_8 : decode YX12_image.2.1 8 = .ok (.invokestatic 188, 3) := by decide +kernel
theorem dX12_image_11 : decode YX12_image.2.1 11 = .ok (.ifCond .ne 5, 3) := by decide +kernel
theorem dX12_image_14 : decode YX12_image.2.1 14 = .ok (.iconst 0, 1) := by decide +kernel
theorem dX12_image_15 : decode YX12_image.2.1 15 = .ok (.ireturn, 1) := by decide +kernel
theorem dX12_image_16 : decode YX12_image.2.1 16 = .ok (.iconst 0, 1) := by decide +kernel
theorem dX12_image_17 : decode YX12_image.2.1 17 = .ok (.istore_n 2, 1) := by decide +kernel
theorem dX12_image_18 : decode YX12_image.2.1 18 = .ok (.iload_n 2, 1) := by decide +kernel
theorem dX12_image_19 : decode YX12_image.2.1 19 = .ok (.sipush 397, 3) := by decide +kernel
theorem dX12_image_22 : decode YX12_image.2.1 22 = .ok (.if_icmp .ge 27, 3) := by decide +kernel
theorem dX12_image_25 : decode YX12_image.2.1 25 = .ok (.aload_n 0, 1) := by decide +kernel
theorem dX12_image_26 : decode YX12_image.2.1 26 = .ok (.getfield 90, 3) := by decide +kernel
theorem dX12_image_29 : decode YX12_image.2.1 29 = .ok (.sipush 397, 3) := by decide +kernel
theorem dX12_image_32 : decode YX12_image.2.1 32 = .ok (.iload_n 1, 1) := by decide +kernel
theorem dX12_image_33 : decode YX12_image.2.1 33 = .ok (.imul, 1) := by decide +kernel
theorem dX12_image_34 : decode YX12_image.2.1 34 = .ok (.iload_n 2, 1) := by decide +kernel
theorem dX12_image_35 : decode YX12_image.2.1 35 = .ok (.iadd, 1) := by decide +kernel
theorem dX12_image_36 : decode YX12_image.2.1 36 = .ok (.aload_n 0, 1) := by decide +kernel
theorem dX12_image_37 : decode YX12_image.2.1 37 = .ok (.getfield 33, 3) := by decide +kernel
theorem dX12_image_40 : decode YX12_image.2.1 40 = .ok (.iload_n 2, 1) := by decide +kernel
theorem dX12_image_41 : decode YX12_image.2.1 41 = .ok (.iaload, 1) := by decide +kernel
theorem dX12_image_42 : decode YX12_image.2.1 42 = .ok (.iastore, 1) := by decide +kernel
theorem dX12_image_43 : decode YX12_image.2.1 43 = .ok (.iinc 2 1, 3) := by decide +kernel
theorem dX12_image_46 : decode YX12_image.2.1 46 = .ok (.goto (-28), 3) := by decide +kernel
theorem dX12_image_49 : decode YX12_image.2.1 49 = .ok (.iconst 0, 1) := by decide +kernel
theorem dX12_image_50 : decode YX12_image.2.1 50 = .ok (.istore_n 2, 1) := by decide +kernel
theorem dX12_image_51 : decode YX12_image.2.1 51 = .ok (.iload_n 2, 1) := by decide +kernel
theorem dX12_image_52 : decode YX12_image.2.1 52 = .ok (.bipush 14, 2) := by decide +kernel
theorem dX12_image_54 : decode YX12_image.2.1 54 = .ok (.if_icmp .ge 26, 3) := by decide +kernel
theorem dX12_image_57 : decode YX12_image.2.1 57 = .ok (.aload_n 0, 1) := by decide +kernel
theorem dX12_image_58 : decode YX12_image.2.1 58 = .ok (.getfield 93, 3) := by decide +kernel
theorem dX12_image_61 : decode YX12_image.2.1 61 = .ok (.bipush 14, 2) := by decide +kernel
theorem dX12_image_63 : decode YX12_image.2.1 63 = .ok (.iload_n 1, 1) := by decide +kernel
theorem dX12_image_64 : decode YX12_image.2.1 64 = .ok (.imul, 1) := by decide +kernel
theorem dX12_image_65 : decode YX12_image.2.1 65 = .ok (.iload_n 2, 1) := by decide +kernel
theorem dX12_image_66 : decode YX12_image.2.1 66 = .ok (.iadd, 1) := by decide +kernel
theorem dX12_image_67 : decode YX12_image.2.1 67 = .ok (.aload_n 0, 1) := by decide +kernel
theorem dX12_image_68 : decode YX12_image.2.1 68 = .ok (.getfield 43, 3) := by decide +kernel
theorem dX12_image_71 : decode YX12_image.2.1 71 = .ok (.iload_n 2, 1) := by decide +kernel
theorem dX12_image_72 : decode YX12_image.2.1 72 = .ok (.laload, 1) := by decide +kernel
theorem dX12_image_73 : decode YX12_image.2.1 73 = .ok (.lastore, 1) := by decide +kernel
theorem dX12_image_74 : decode YX12_image.2.1 74 = .ok (.iinc 2 1, 3) := by decide +kernel
theorem dX12_image_77 : decode YX12_image.2.1 77 = .ok (.goto (-26), 3) := by decide +kernel
theorem dX12_image_80 : decode YX12_image.2.1 80 = .ok (.aload_n 0, 1) := by decide +kernel
theorem dX12_image_81 : decode YX12_image.2.1 81 = .ok (.getfield 96, 3) := by decide +kernel
theorem dX12_image_84 : decode YX12_image.2.1 84 = .ok (.iload_n 1, 1) := by decide +kernel
theorem dX12_image_85 : decode YX12_image.2.1 85 = .ok (.iconst 1, 1) := by decide +kernel
theorem dX12_image_86 : decode YX12_image.2.1 86 = .ok (.bastore, 1) := by decide +kernel
theorem dX12_image_87 : decode YX12_image.2.1 87 = .ok (.iconst 1, 1) := by decide +kernel
theorem dX12_image_88 : decode YX12_image.2.1 88 = .ok (.ireturn, 1) := by decide +kernel
theorem dX12_isBeside_0 : decode YX12_isBeside.2.1 0 = .ok (.aload_n 0, 1) := by decide +kernel
theorem dX12_isBeside_1 : decode YX12_isBeside.2.1 1 = .ok (.getfield 33, 3) := by decide +kernel
theorem dX12_isBeside_4 : decode YX12_isBeside.2.1 4 = .ok (.iconst 3, 1) := by decide +kernel
theorem dX12_isBeside_5 : decode YX12_isBeside.2.1 5 = .ok (.iload_n 1, 1) := by decide +kernel
theorem dX12_isBeside_6 : decode YX12_isBeside.2.1 6 = .ok (.iadd, 1) := by decide +kernel
theorem dX12_isBeside_7 : decode YX12_isBeside.2.1 7 = .ok (.iaload, 1) := by decide +kernel
theorem dX12_isBeside_8 : decode YX12_isBeside.2.1 8 = .ok (.iload_n 2, 1) := by decide +kernel
theorem dX12_isBeside_9 : decode YX12_isBeside.2.1 9 = .ok (.invokestatic 235, 3) := by decide +kernel
theorem dX12_isBeside_12 : decode YX12_isBeside.2.1 12 = .ok (.ireturn, 1) := by decide +kernel
theorem dX12_isCorner_0 : decode YX12_isCorner.2.1 0 = .ok (.iload_n 1, 1) := by decide +kernel
theorem dX12_isCorner_1 : decode YX12_isCorner.2.1 1 = .ok (.iconst 0, 1) := by decide +kernel
theorem dX12_isCorner_2 : decode YX12_isCorner.2.1 2 = .ok (.aload_n 0, 1) := by decide +kernel
theorem dX12_isCorner_3 : decode YX12_isCorner.2.1 3 = .ok (.getfield 33, 3) := by decide +kernel
theorem dX12_isCorner_6 : decode YX12_isCorner.2.1 6 = .ok (.iconst 0, 1) := by decide +kernel
theorem dX12_isCorner_7 : decode YX12_isCorner.2.1 7 = .ok (.iaload, 1) := by decide +kernel
theorem dX12_isCorner_8 : decode YX12_isCorner.2.1 8 = .ok (.iconst 1, 1) := by decide +kernel
theorem dX12_isCorner_9 : decode YX12_isCorner.2.1 9 = .ok (.isub, 1) := by decide +kernel
theorem dX12_isCorner_10 : decode YX12_isCorner.2.1 10 = .ok (.invokestatic 188, 3) := by decide +kernel
theorem dX12_isCorner_13 : decode YX12_isCorner.2.1 13 = .ok (.ireturn, 1) := by decide +kernel
theorem dX12_isDigit_0 : decode YX12_isDigit.2.1 0 = .ok (.iload_n 0, 1) := by decide +kernel
theorem dX12_isDigit_1 : decode YX12_isDigit.2.1 1 = .ok (.bipush 48, 2) := by decide +kernel
theorem dX12_isDigit_3 : decode YX12_isDigit.2.1 3 = .ok (.if_icmp .lt 13, 3) := by decide +kernel
theorem dX12_isDigit_6 : decode YX12_isDigit.2.1 6 = .ok (.iload_n 0, 1) := by decide +kernel
theorem dX12_isDigit_7 : decode YX12_isDigit.2.1 7 = .ok (.bipush 57, 2) := by decide +kernel
theorem dX12_isDigit_9 : decode YX12_isDigit.2.1 9 = .ok (.if_icmp .gt 7, 3) := by decide +kernel
theorem dX12_isDigit_12 : decode YX12_isDigit.2.1 12 = .ok (.iconst 1, 1) := by decide +kernel
theorem dX12_isDigit_13 : decode YX12_isDigit.2.1 13 = .ok (.goto 4, 3) := by decide +kernel
theorem dX12_isDigit_16 : decode YX12_isDigit.2.1 16 = .ok (.iconst 0, 1) := by decide +kernel
theorem dX12_isDigit_17 : decode YX12_isDigit.2.1 17 = .ok (.ireturn, 1) := by decide +kernel
theorem dX12_isFit_0 : decode YX12_isFit.2.1 0 = .ok (.iconst 1, 1) := by decide +kernel
theorem dX12_isFit_1 : decode YX12_isFit.2.1 1 = .ok (.istore_n 2, 1) := by decide +kernel
theorem dX12_isFit_2 : decode YX12_isFit.2.1 2 = .ok (.iconst 0, 1) := by decide +kernel
theorem dX12_isFit_3 : decode YX12_isFit.2.1 3 = .ok (.istore_n 3, 1) := by decide +kernel
theorem dX12_isFit_4 : decode YX12_isFit.2.1 4 = .ok (.iload_n 3, 1) := by decide +kernel
theorem dX12_isFit_5 : decode YX12_isFit.2.1 5 = .ok (.aload_n 0, 1) := by decide +kernel
theorem dX12_isFit_6 : decode YX12_isFit.2.1 6 = .ok (.getfield 18, 3) := by decide +kernel
theorem dX12_isFit_9 : decode YX12_isFit.2.1 9 = .ok (.if_icmp .ge 52, 3) := by decide +kernel
theorem dX12_isFit_12 : decode YX12_isFit.2.1 12 = .ok (.iload_n 2, 1) := by decide +kernel
theorem dX12_isFit_13 : decode YX12_isFit.2.1 13 = .ok (.ifCond .eq 40, 3) := by decide +kernel
theorem dX12_isFit_16 : decode YX12_isFit.2.1 16 = .ok (.aload_n 0, 1) := by decide +kernel
theorem dX12_isFit_17 : decode YX12_isFit.2.1 17 = .ok (.iload_n 3, 1) := by decide +kernel
theorem dX12_isFit_18 : decode YX12_isFit.2.1 18 = .ok (.invokevirtual 346, 3) := by decide +kernel
theorem dX12_isFit_21 : decode YX12_isFit.2.1 21 = .ok (.sipush 255, 3) := by decide +kernel
theorem dX12_isFit_24 : decode YX12_isFit.2.1 24 = .ok (.if_icmp .eq 25, 3) := by decide +kernel
theorem dX12_isFit_27 : decode YX12_isFit.2.1 27 = .ok (.aload_n 0, 1) := by decide +kernel
theorem dX12_isFit_28 : decode YX12_isFit.2.1 28 = .ok (.iload_n 3, 1) := by decide +kernel
theorem dX12_isFit_29 : decode YX12_isFit.2.1 29 = .ok (.invokevirtual 346, 3) := by decide +kernel
theorem dX12_isFit_32 : decode YX12_isFit.2.1 32 = .ok (.aload_n 0, 1) := by decide +kernel
theorem dX12_isFit_33 : decode YX12_isFit.2.1 33 = .ok (.getfield 33, 3) := by decide +kernel
theorem dX12_isFit_36 : decode YX12_isFit.2.1 36 = .ok (.bipush 91, 2) := by decide +kernel
theorem dX12_isFit_38 : decode YX12_isFit.2.1 38 = .ok (.bipush 6, 2) := by decide +kernel
theorem dX12_isFit_40 : decode YX12_isFit.2.1 40 = .ok (.iload_n 3, 1) := by decide +kernel
theorem dX12_isFit_41 : decode YX12_isFit.2.1 41 = .ok (.imul, 1) := by decide +kernel
theorem dX12_isFit_42 : decode YX12_isFit.2.1 42 = .ok (.iadd, 1) := by decide +kernel
theorem dX12_isFit_43 : decode YX12_isFit.2.1 43 = .ok (.iload_n 1, 1) := by decide +kernel
theorem dX12_isFit_44 : decode YX12_isFit.2.1 44 = .ok (.iadd, 1) := by decide +kernel
theorem dX12_isFit_45 : decode YX12_isFit.2.1 45 = .ok (.iaload, 1) := by decide +kernel
theorem dX12_isFit_46 : decode YX12_isFit.2.1 46 = .ok (.if_icmp .ne 7, 3) := by decide +kernel
theorem dX12_isFit_49 : decode YX12_isFit.2.1 49 = .ok (.iconst 1, 1) := by decide +kernel
theorem dX12_isFit_50 : decode YX12_isFit.2.1 50 = .ok (.goto 4, 3) := by decide +kernel
theorem dX12_isFit_53 : decode YX12_isFit.2.1 53 = .ok (.iconst 0, 1) := by decide +kernel
theorem dX12_isFit_54 : decode YX12_isFit.2.1 54 = .ok (.istore_n 2, 1) := by decide +kernel
theorem dX12_isFit_55 : decode YX12_isFit.2.1 55 = .ok (.iinc 3 1, 3) := by decide +kernel
theorem dX12_isFit_58 : decode YX12_isFit.2.1 58 = .ok (.goto (-54), 3) := by decide +kernel
theorem dX12_isFit_61 : decode YX12_isFit.2.1 61 = .ok (.iload_n 2, 1) := by decide +kernel
theorem dX12_isFit_62 : decode YX12_isFit.2.1 62 = .ok (.ireturn, 1) := by decide +kernel
theorem dX12_isIdle_0 : decode YX12_isIdle.2.1 0 = .ok (.aload_n 0, 1) := by decide +kernel
theorem dX12_isIdle_1 : decode YX12_isIdle.2.1 1 = .ok (.getfield 33, 3) := by decide +kernel
theorem dX12_isIdle_4 : decode YX12_isIdle.2.1 4 = .ok (.sipush 133, 3) := by decide +kernel
theorem dX12_isIdle_7 : decode YX12_isIdle.2.1 7 = .ok (.iload_n 1, 1) := by decide +kernel
theorem dX12_isIdle_8 : decode YX12_isIdle.2.1 8 = .ok (.iadd, 1) := by decide +kernel
theorem dX12_isIdle_9 : decode YX12_isIdle.2.1 9 = .ok (.iaload, 1) := by decide +kernel
theorem dX12_isIdle_10 : decode YX12_isIdle.2.1 10 = .ok (.ifCond .ne 20, 3) := by decide +kernel
theorem dX12_isIdle_13 : decode YX12_isIdle.2.1 13 = .ok (.aload_n 0, 1) := by decide +kernel
theorem dX12_isIdle_14 : decode YX12_isIdle.2.1 14 = .ok (.getfield 33, 3) := by decide +kernel
theorem dX12_isIdle_17 : decode YX12_isIdle.2.1 17 = .ok (.sipush 145, 3) := by decide +kernel
theorem dX12_isIdle_20 : decode YX12_isIdle.2.1 20 = .ok (.iload_n 1, 1) := by decide +kernel
theorem dX12_isIdle_21 : decode YX12_isIdle.2.1 21 = .ok (.iadd, 1) := by decide +kernel
theorem dX12_isIdle_22 : decode YX12_isIdle.2.1 22 = .ok (.iaload, 1) := by decide +kernel
theorem dX12_isIdle_23 : decode YX12_isIdle.2.1 23 = .ok (.ifCond .ne 7, 3) := by decide +kernel
theorem dX12_isIdle_26 : decode YX12_isIdle.2.1 26 = .ok (.iconst 1, 1) := by decide +kernel
theorem dX12_isIdle_27 : decode YX12_isIdle.2.1 27 = .ok (.goto 4, 3) := by decide +kernel
theorem dX12_isIdle_30 : decode YX12_isIdle.2.1 30 = .ok (.iconst 0, 1) := by decide +kernel
theorem dX12_isIdle_31 : decode YX12_isIdle.2.1 31 = .ok (.ireturn, 1) := by decide +kernel
theorem dX12_isIn_0 : decode YX12_isIn.2.1 0 = .ok (.iload_n 0, 1) := by decide +kernel
theorem dX12_isIn_1 : decode YX12_isIn.2.1 1 = .ok (.iload_n 1, 1) := by decide +kernel
theorem dX12_isIn_2 : decode YX12_isIn.2.1 2 = .ok (.if_icmp .lt 12, 3) := by decide +kernel
theorem dX12_isIn_5 : decode YX12_isIn.2.1 5 = .ok (.iload_n 0, 1) := by decide +kernel
theorem dX12_isIn_6 : decode YX12_isIn.2.1 6 = .ok (.iload_n 2, 1) := by decide +kernel
theorem dX12_isIn_7 : decode YX12_isIn.2.1 7 = .ok (.if_icmp .gt 7, 3) := by decide +kernel
theorem dX12_isIn_10 : decode YX12_isIn.2.1 10 = .ok (.iconst 1, 1) := by decide +kernel
theorem dX12_isIn_11 : decode YX12_isIn.2.1 11 = .ok (.goto 4, 3) := by decide +kernel
theorem dX12_isIn_14 : decode YX12_isIn.2.1 14 = .ok (.iconst 0, 1) := by decide +kernel
theorem dX12_isIn_15 : decode YX12_isIn.2.1 15 = .ok (.ireturn, 1) := by decide +kernel
theorem dX12_isLeaf_0 : decode YX12_isLeaf.2.1 0 = .ok (.iload_n 2, 1) := by decide +kernel
theorem dX12_isLeaf_1 : decode YX12_isLeaf.2.1 1 = .ok (.tableswitch 105 0 4 #[35, 49, 63, 69, 89], 35) := by decide +kernel
theorem dX12_isLeaf_36 : decode YX12_isLeaf.2.1 36 = .ok (.aload_n 0, 1) := by decide +kernel
theorem dX12_isLeaf_37 : decode YX12_isLeaf.2.1 37 = .ok (.iload_n 1, 1) := by decide +kernel
theorem dX12_isLeaf_38 : decode YX12_isLeaf.2.1 38 = .ok (.invokevirtual 277, 3) := by decide +kernel
theorem dX12_isLeaf_41 : decode YX12_isLeaf.2.1 41 = .ok (.ifCond .ne 7, 3) := by decide +kernel
theorem dX12_isLeaf_44 : decode YX12_isLeaf.2.1 44 = .ok (.iconst 1, 1) := by decide +kernel
theorem dX12_isLeaf_45 : decode YX12_isLeaf.2.1 45 = .ok (.goto 4, 3) := by decide +kernel
theorem dX12_isLeaf_48 : decode YX12_isLeaf.2.1 48 = .ok (.iconst 0, 1) := by decide +kernel
theorem dX12_isLeaf_49 : decode YX12_isLeaf.2.1 49 = .ok (.ireturn, 1) := by decide +kernel
theorem dX12_isLeaf_50 : decode YX12_isLeaf.2.1 50 = .ok (.aload_n 0, 1) := by decide +kernel
theorem dX12_isLeaf_51 : decode YX12_isLeaf.2.1 51 = .ok (.iload_n 1, 1) := by decide +kernel
theorem dX12_isLeaf_52 : decode YX12_isLeaf.2.1 52 = .ok (.invokevirtual 286, 3) := by decide +kernel
theorem dX12_isLeaf_55 : decode YX12_isLeaf.2.1 55 = .ok (.ifCond .le 7, 3) := by decide +kernel
theorem dX12_isLeaf_58 : decode YX12_isLeaf.2.1 58 = .ok (.iconst 1, 1) := by decide +kernel
theorem dX12_isLeaf_59 : decode YX12_isLeaf.2.1 59 = .ok (.goto 4, 3) := by decide +kernel
theorem dX12_isLeaf_62 : decode YX12_isLeaf.2.1 62 = .ok (.iconst 0, 1) := by decide +kernel
theorem dX12_isLeaf_63 : decode YX12_isLeaf.2.1 63 = .ok (.ireturn, 1) := by decide +kernel
theorem dX12_isLeaf_64 : decode YX12_isLeaf.2.1 64 = .ok (.aload_n 0, 1) := by decide +kernel
theorem dX12_isLeaf_65 : decode YX12_isLeaf.2.1 65 = .ok (.iload_n 1, 1) := by decide +kernel
theorem dX12_isLeaf_66 : decode YX12_isLeaf.2.1 66 = .ok (.invokevirtual 373, 3) := by decide +kernel
theorem dX12_isLeaf_69 : decode YX12_isLeaf.2.1 69 = .ok (.ireturn, 1) := by decide +kernel
theorem dX12_isLeaf_70 : decode YX12_isLeaf.2.1 70 = .ok (.aload_n 0, 1) := by decide +kernel
theorem dX12_isLeaf_71 : decode YX12_isLeaf.2.1 71 = .ok (.getfield 33, 3) := by decide +kernel
theorem dX12_isLeaf_74 : decode YX12_isLeaf.2.1 74 = .ok (.bipush 91, 2) := by decide +kernel
theorem dX12_isLeaf_76 : decode YX12_isLeaf.2.1 76 = .ok (.iload_n 1, 1) := by decide +kernel
theorem dX12_isLeaf_77 : decode YX12_isLeaf.2.1 77 = .ok (.iadd, 1) := by decide +kernel
theorem dX12_isLeaf_78 : decode YX12_isLeaf.2.1 78 = .ok (.iaload, 1) := by decide +kernel
theorem dX12_isLeaf_79 : decode YX12_isLeaf.2.1 79 = .ok (.iload 4, 2) := by decide +kernel
theorem dX12_isLeaf_81 : decode YX12_isLeaf.2.1 81 = .ok (.if_icmp .ne 7, 3) := by decide +kernel
theorem dX12_isLeaf_84 : decode YX12_isLeaf.2.1 84 = .ok (.iconst 1, 1) := by decide +kernel
theorem dX12_isLeaf_85 : decode YX12_isLeaf.2.1 85 = .ok (.goto 4, 3) := by decide +kernel
theorem dX12_isLeaf_88 : decode YX12_isLeaf.2.1 88 = .ok (.iconst 0, 1) := by decide +kernel
theorem dX12_isLeaf_89 : decode YX12_isLeaf.2.1 89 = .ok (.ireturn, 1) := by decide +kernel
theorem dX12_isLeaf_90 : decode YX12_isLeaf.2.1 90 = .ok (.aload_n 0, 1) := by decide +kernel
theorem dX12_isLeaf_91 : decode YX12_isLeaf.2.1 91 = .ok (.iload_n 1, 1) := by decide +kernel
theorem dX12_isLeaf_92 : decode YX12_isLeaf.2.1 92 = .ok (.invokevirtual 266, 3) := by decide +kernel
theorem dX12_isLeaf_95 : decode YX12_isLeaf.2.1 95 = .ok (.iload 4, 2) := by decide +kernel
theorem dX12_isLeaf_97 : decode YX12_isLeaf.2.1 97 = .ok (.if_icmp .ne 7, 3) := by decide +kernel
theorem dX12_isLeaf_100 : decode YX12_isLeaf.2.1 100 = .ok (.iconst 1, 1) := by decide +kernel
theorem dX12_isLeaf_101 : decode YX12_isLeaf.2.1 101 = .ok (.goto 4, 3) := by decide +kernel
theorem dX12_isLeaf_104 : decode YX12_isLeaf.2.1 104 = .ok (.iconst 0, 1) := by decide +kernel
theorem dX12_isLeaf_105 : decode YX12_isLeaf.2.1 105 = .ok (.ireturn, 1) := by decide +kernel
theorem dX12_isLeaf_106 : decode YX12_isLeaf.2.1 106 = .ok (.iload_n 2, 1) := by decide +kernel
theorem dX12_isLeaf_107 : decode YX12_isLeaf.2.1 107 = .ok (.iconst 5, 1) := by decide +kernel
theorem dX12_isLeaf_108 : decode YX12_isLeaf.2.1 108 = .ok (.if_icmp .ne 15, 3) := by decide +kernel
theorem dX12_isLeaf_111 : decode YX12_isLeaf.2.1 111 = .ok (.aload_n 0, 1) := by decide +kernel
theorem dX12_isLeaf_112 : decode YX12_isLeaf.2.1 112 = .ok (.getfield 33, 3) := by decide +kernel
theorem dX12_isLeaf_115 : decode YX12_isLeaf.2.1 115 = .ok (.bipush 127, 2) := by decide +kernel
theorem dX12_isLeaf_117 : decode YX12_isLeaf.2.1 117 = .ok (.iload_n 1, 1) := by decide +kernel
theorem dX12_isLeaf_118 : decode YX12_isLeaf.2.1 118 = .ok (.iadd, 1) := by decide +kernel
theorem dX12_isLeaf_119 : decode YX12_isLeaf.2.1 119 = .ok (.iaload, 1) := by decide +kernel
theorem dX12_isLeaf_120 : decode YX12_isLeaf.2.1 120 = .ok (.goto 40, 3) := by decide +kernel
theorem dX12_isLeaf_123 : decode YX12_isLeaf.2.1 123 = .ok (.iload_n 2, 1) := by decide +kernel
theorem dX12_isLeaf_124 : decode YX12_isLeaf.2.1 124 = .ok (.bipush 6, 2) := by decide +kernel
theorem dX12_isLeaf_126 : decode YX12_isLeaf.2.1 126 = .ok (.if_icmp .ne 16, 3) := by decide +kernel
theorem dX12_isLeaf_129 : decode YX12_isLeaf.2.1 129 = .ok (.aload_n 0, 1) := by decide +kernel
theorem dX12_isLeaf_130 : decode YX12_isLeaf.2.1 130 = .ok (.getfield 33, 3) := by decide +kernel
theorem dX12_isLeaf_133 : decode YX12_isLeaf.2.1 133 = .ok (.sipush 145, 3) := by decide +kernel
theorem dX12_isLeaf_136 : decode YX12_isLeaf.2.1 136 = .ok (.iload_n 1, 1) := by decide +kernel
theorem dX12_isLeaf_137 : decode YX12_isLeaf.2.1 137 = .ok (.iadd, 1) := by decide +kernel
theorem dX12_isLeaf_138 : decode YX12_isLeaf.2.1 138 = .ok (.iaload, 1) := by decide +kernel
theorem dX12_isLeaf_139 : decode YX12_isLeaf.2.1 139 = .ok (.goto 21, 3) := by decide +kernel
theorem dX12_isLeaf_142 : decode YX12_isLeaf.2.1 142 = .ok (.iload_n 2, 1) := by decide +kernel
theorem dX12_isLeaf_143 : decode YX12_isLeaf.2.1 143 = .ok (.bipush 7, 2) := by decide +kernel
theorem dX12_isLeaf_145 : decode YX12_isLeaf.2.1 145 = .ok (.if_icmp .ne 14, 3) := by decide +kernel
theorem dX12_isLeaf_148 : decode YX12_isLeaf.2.1 148 = .ok (.aload_n 0, 1) := by decide +kernel
theorem dX12_isLeaf_149 : decode YX12_isLeaf.2.1 149 = .ok (.iload_n 1, 1) := by decide +kernel
theorem dX12_isLeaf_150 : decode YX12_isLeaf.2.1 150 = .ok (.invokevirtual 277, 3) := by decide +kernel
theorem dX12_isLeaf_153 : decode YX12_isLeaf.2.1 153 = .ok (.invokestatic 334, 3) := by decide +kernel
theorem dX12_isLeaf_156 : decode YX12_isLeaf.2.1 156 = .ok (.goto 4, 3) := by decide +kernel
theorem dX12_isLeaf_159 : decode YX12_isLeaf.2.1 159 = .ok (.iload_n 1, 1) := by decide +kernel
theorem dX12_isLeaf_160 : decode YX12_isLeaf.2.1 160 = .ok (.istore 5, 2) := by decide +kernel
theorem dX12_isLeaf_162 : decode YX12_isLeaf.2.1 162 = .ok (.iload_n 3, 1) := by decide +kernel
theorem dX12_isLeaf_163 : decode YX12_isLeaf.2.1 163 = .ok (.bipush 60, 2) := by decide +kernel
theorem dX12_isLeaf_165 : decode YX12_isLeaf.2.1 165 = .ok (.if_icmp .ne 18, 3) := by decide +kernel
theorem dX12_isLeaf_168 : decode YX12_isLeaf.2.1 168 = .ok (.iload 5, 2) := by decide +kernel
theorem dX12_isLeaf_170 : decode YX12_isLeaf.2.1 170 = .ok (.iload 4, 2) := by decide +kernel
theorem dX12_isLeaf_172 : decode YX12_isLeaf.2.1 172 = .ok (.if_icmp .ge 7, 3) := by decide +kernel
theorem dX12_isLeaf_175 : decode YX12_isLeaf.2.1 175 = .ok (.iconst 1, 1) := by decide +kernel
theorem dX12_isLeaf_176 : decode YX12_isLeaf.2.1 176 = .ok (.goto 40, 3) := by decide +kernel
theorem dX12_isLeaf_179 : decode YX12_isLeaf.2.1 179 = .ok (.iconst 0, 1) := by decide +kernel
theorem dX12_isLeaf_180 : decode YX12_isLeaf.2.1 180 = .ok (.goto 36, 3) := by decide +kernel
theorem dX12_isLeaf_183 : decode YX12_isLeaf.2.1 183 = .ok (.iload_n 3, 1) := by decide +kernel
theorem dX12_isLeaf_184 : decode YX12_isLeaf.2.1 184 = .ok (.bipush 61, 2) := by decide +kernel
theorem dX12_isLeaf_186 : decode YX12_isLeaf.2.1 186 = .ok (.if_icmp .ne 18, 3) := by decide +kernel
theorem dX12_isLeaf_189 : decode YX12_isLeaf.2.1 189 = .ok (.iload 5, 2) := by decide +kernel
theorem dX12_isLeaf_191 : decode YX12_isLeaf.2.1 191 = .ok (.iload 4, 2) := by decide +kernel
theorem dX12_isLeaf_193 : decode YX12_isLeaf.2.1 193 = .ok (.if_icmp .ne 7, 3) := by decide +kernel
theorem dX12_isLeaf_196 : decode YX12_isLeaf.2.1 196 = .ok (.iconst 1, 1) := by decide +kernel
theorem dX12_isLeaf_197 : decode YX12_isLeaf.2.1 197 = .ok (.goto 19, 3) := by decide +kernel
theorem dX12_isLeaf_200 : decode YX12_isLeaf.2.1 200 = .ok (.iconst 0, 1) := by decide +kernel
theorem dX12_isLeaf_201 : decode YX12_isLeaf.2.1 201 = .ok (.goto 15, 3) := by decide +kernel
theorem dX12_isLeaf_204 : decode YX12_isLeaf.2.1 204 = .ok (.iload 5, 2) := by decide +kernel
theorem dX12_isLeaf_206 : decode YX12_isLeaf.2.1 206 = .ok (.iload 4, 2) := by decide +kernel
theorem dX12_isLeaf_208 : decode YX12_isLeaf.2.1 208 = .ok (.if_icmp .le 7, 3) := by decide +kernel
theorem dX12_isLeaf_211 : decode YX12_isLeaf.2.1 211 = .ok (.iconst 1, 1) := by decide +kernel
theorem dX12_isLeaf_212 : decode YX12_isLeaf.2.1 212 = .ok (.goto 4, 3) := by decide +kernel
theorem dX12_isLeaf_215 : decode YX12_isLeaf.2.1 215 = .ok (.iconst 0, 1) := by decide +kernel
theorem dX12_isLeaf_216 : decode YX12_isLeaf.2.1 216 = .ok (.ireturn, 1) := by decide +kernel
theorem dX12_isName_0 : decode YX12_isName.2.1 0 = .ok (.aload_n 0, 1) := by decide +kernel
theorem dX12_isName_1 : decode YX12_isName.2.1 1 = .ok (.getfield 156, 3) := by decide +kernel
theorem dX12_isName_4 : decode YX12_isName.2.1 4 = .ok (.iconst 1, 1) := by decide +kernel
theorem dX12_isName_5 : decode YX12_isName.2.1 5 = .ok (.if_icmp .ne 7, 3) := by decide +kernel
theorem dX12_isName_8 : decode YX12_isName.2.1 8 = .ok (.iconst 1, 1) := by decide +kernel
theorem dX12_isName_9 : decode YX12_isName.2.1 9 = .ok (.goto 4, 3) := by decide +kernel
theorem dX12_isName_12 : decode YX12_isName.2.1 12 = .ok (.iconst 0, 1) := by decide +kernel
theorem dX12_isName_13 : decode YX12_isName.2.1 13 = .ok (.istore_n 1, 1) := by decide +kernel
theorem dX12_isName_14 : decode YX12_isName.2.1 14 = .ok (.iconst 0, 1) := by decide +kernel
theorem dX12_isName_15 : decode YX12_isName.2.1 15 = .ok (.istore_n 2, 1) := by decide +kernel
theorem dX12_isName_16 : decode YX12_isName.2.1 16 = .ok (.iload_n 2, 1) := by decide +kernel
theorem dX12_isName_17 : decode YX12_isName.2.1 17 = .ok (.bipush 22, 2) := by decide +kernel
theorem dX12_isName_19 : decode YX12_isName.2.1 19 = .ok (.if_icmp .ge 33, 3) := by decide +kernel
theorem dX12_isName_22 : decode YX12_isName.2.1 22 = .ok (.iload_n 1, 1) := by decide +kernel
theorem dX12_isName_23 : decode YX12_isName.2.1 23 = .ok (.ifCond .eq 21, 3) := by decide +kernel
theorem dX12_isName_26 : decode YX12_isName.2.1 26 = .ok (.aload_n 0, 1) := by decide +kernel
theorem dX12_isName_27 : decode YX12_isName.2.1 27 = .ok (.getfield 169, 3) := by decide +kernel
theorem dX12_isName_30 : decode YX12_isName.2.1 30 = .ok (.aload_n 0, 1) := by decide +kernel
theorem dX12_isName_31 : decode YX12_isName.2.1 31 = .ok (.getfield 47, 3) := by decide +kernel
theorem dX12_isName_34 : decode YX12_isName.2.1 34 = .ok (.iload_n 2, 1) := by decide +kernel
theorem dX12_isName_35 : decode YX12_isName.2.1 35 = .ok (.laload, 1) := by decide +kernel
theorem dX12_isName_36 : decode YX12_isName.2.1 36 = .ok (.lcmp, 1) := by decide +kernel
theorem dX12_isName_37 : decode YX12_isName.2.1 37 = .ok (.ifCond .eq 7, 3) := by decide +kernel
theorem dX12_isName_40 : decode YX12_isName.2.1 40 = .ok (.iconst 1, 1) := by decide +kernel
theorem dX12_isName_41 : decode YX12_isName.2.1 41 = .ok (.goto 4, 3) := by decide +kernel
theorem dX12_isName_44 : decode YX12_isName.2.1 44 = .ok (.iconst 0, 1) := by decide +kernel
theorem dX12_isName_45 : decode YX12_isName.2.1 45 = .ok (.istore_n 1, 1) := by decide +kernel
theorem dX12_isName_46 : decode YX12_isName.2.1 46 = .ok (.iinc 2 1, 3) := by decide +kernel
theorem dX12_isName_49 : decode YX12_isName.2.1 49 = .ok (.goto (-33), 3) := by decide +kernel
theorem dX12_isName_52 : decode YX12_isName.2.1 52 = .ok (.iload_n 1, 1) := by decide +kernel
theorem dX12_isName_53 : decode YX12_isName.2.1 53 = .ok (.ireturn, 1) := by decide +kernel
theorem dX12_isPerson_0 : decode YX12_isPerson.2.1 0 = .ok (.iload_n 1, 1) := by decide +kernel
theorem dX12_isPerson_1 : decode YX12_isPerson.2.1 1 = .ok (.iconst 0, 1) := by decide +kernel
theorem dX12_isPerson_2 : decode YX12_isPerson.2.1 2 = .ok (.aload_n 0, 1) := by decide +kernel
theorem dX12_isPerson_3 : decode YX12_isPerson.2.1 3 = .ok (.getfield 33, 3) := by decide +kernel
theorem dX12_isPerson_6 : decode YX12_isPerson.2.1 6 = .ok (.iconst 2, 1) := by decide +kernel
theorem dX12_isPerson_7 : decode YX12_isPerson.2.1 7 = .ok (.iaload, 1) := by decide +kernel
theorem dX12_isPerson_8 : decode YX12_isPerson.2.1 8 = .ok (.iconst 1, 1) := by decide +kernel
theorem dX12_isPerson_9 : decode YX12_isPerson.2.1 9 = .ok (.isub, 1) := by decide +kernel
theorem dX12_isPerson_10 : decode YX12_isPerson.2.1 10 = .ok (.invokestatic 188, 3) := by decide +kernel
theorem dX12_isPerson_13 : decode YX12_isPerson.2.1 13 = .ok (.ireturn, 1) := by decide +kernel
theorem dX12_isProper_0 : decode YX12_isProper.2.1 0 = .ok (.aload_n 0, 1) := by decide +kernel
theorem dX12_isProper_1 : decode YX12_isProper.2.1 1 = .ok (.getfield 33, 3) := by decide +kernel
theorem dX12_isProper_4 : decode YX12_isProper.2.1 4 = .ok (.sipush 145, 3) := by decide +kernel
theorem dX12_isProper_7 : decode YX12_isProper.2.1 7 = .ok (.iload_n 1, 1) := by decide +kernel
theorem dX12_isProper_8 : decode YX12_isProper.2.1 8 = .ok (.iadd, 1) := by decide +kernel
theorem dX12_isProper_9 : decode YX12_isProper.2.1 9 = .ok (.iconst 0, 1) := by decide +kernel
theorem dX12_isProper_10 : decode YX12_isProper.2.1 10 = .ok (.iastore, 1) := by decide +kernel
theorem dX12_isProper_11 : decode YX12_isProper.2.1 11 = .ok (.aload_n 0, 1) := by decide +kernel
theorem dX12_isProper_12 : decode YX12_isProper.2.1 12 = .ok (.iload_n 2, 1) := by decide +kernel
theorem dX12_isProper_13 : decode YX12_isProper.2.1 13 = .ok (.iload_n 1, 1) := by decide +kernel
theorem dX12_isProper_14 : decode YX12_isProper.2.1 14 = .ok (.iload_n 3, 1) := by decide +kernel
theorem dX12_isProper_15 : decode YX12_isProper.2.1 15 = .ok (.invokevirtual 320, 3) := by decide +kernel
theorem dX12_isProper_18 : decode YX12_isProper.2.1 18 = .ok (.iconst 1, 1) := by decide +kernel
theorem dX12_isProper_19 : decode YX12_isProper.2.1 19 = .ok (.istore 4, 2) := by decide +kernel
theorem dX12_isProper_21 : decode YX12_isProper.2.1 21 = .ok (.iconst 0, 1) := by decide +kernel
theorem dX12_isProper_22 : decode YX12_isProper.2.1 22 = .ok (.istore 5, 2) := by decide +kernel
theorem dX12_isProper_24 : decode YX12_isProper.2.1 24 = .ok (.iload 5, 2) := by decide +kernel
theorem dX12_isProper_26 : decode YX12_isProper.2.1 26 = .ok (.bipush 20, 2) := by decide +kernel
theorem dX12_isProper_28 : decode YX12_isProper.2.1 28 = .ok (.if_icmp .ge 56, 3) := by decide +kernel
theorem dX12_isProper_31 : decode YX12_isProper.2.1 31 = .ok (.iload 4, 2) := by decide +kernel
theorem dX12_isProper_33 : decode YX12_isProper.2.1 33 = .ok (.ifCond .eq 51, 3) := by decide +kernel
theorem dX12_isProper_36 : decode YX12_isProper.2.1 36 = .ok (.aload_n 0, 1) := by decide +kernel
theorem dX12_isProper_37 : decode YX12_isProper.2.1 37 = .ok (.invokevirtual 298, 3) := by decide +kernel
theorem dX12_isProper_40 : decode YX12_isProper.2.1 40 = .ok (.aload_n 0, 1) := by decide +kernel
theorem dX12_isProper_41 : decode YX12_isProper.2.1 41 = .ok (.getfield 50, 3) := by decide +kernel
theorem dX12_isProper_44 : decode YX12_isProper.2.1 44 = .ok (.bipush 8, 2) := by decide +kernel
theorem dX12_isProper_46 : decode YX12_isProper.2.1 46 = .ok (.aload_n 0, 1) := by decide +kernel
theorem dX12_isProper_47 : decode YX12_isProper.2.1 47 = .ok (.getfield 33, 3) := by decide +kernel
theorem dX12_isProper_50 : decode YX12_isProper.2.1 50 = .ok (.bipush 91, 2) := by decide +kernel
theorem dX12_isProper_52 : decode YX12_isProper.2.1 52 = .ok (.iload_n 1, 1) := by decide +kernel
theorem dX12_isProper_53 : decode YX12_isProper.2.1 53 = .ok (.iadd, 1) := by decide +kernel
theorem dX12_isProper_54 : decode YX12_isProper.2.1 54 = .ok (.iaload, 1) := by decide +kernel
theorem dX12_isProper_55 : decode YX12_isProper.2.1 55 = .ok (.imul, 1) := by decide +kernel
theorem dX12_isProper_56 : decode YX12_isProper.2.1 56 = .ok (.aload_n 0, 1) := by decide +kernel
theorem dX12_isProper_57 : decode YX12_isProper.2.1 57 = .ok (.getfield 33, 3) := by decide +kernel
theorem dX12_isProper_60 : decode YX12_isProper.2.1 60 = .ok (.bipush 91, 2) := by decide +kernel
theorem dX12_isProper_62 : decode YX12_isProper.2.1 62 = .ok (.iload_n 2, 1) := by decide +kernel
theorem dX12_isProper_63 : decode YX12_isProper.2.1 63 = .ok (.iadd, 1) := by decide +kernel
theorem dX12_isProper_64 : decode YX12_isProper.2.1 64 = .ok (.iaload, 1) := by decide +kernel
theorem dX12_isProper_65 : decode YX12_isProper.2.1 65 = .ok (.iadd, 1) := by decide +kernel
theorem dX12_isProper_66 : decode YX12_isProper.2.1 66 = .ok (.iaload, 1) := by decide +kernel
theorem dX12_isProper_67 : decode YX12_isProper.2.1 67 = .ok (.iconst 1, 1) := by decide +kernel
theorem dX12_isProper_68 : decode YX12_isProper.2.1 68 = .ok (.if_icmp .le 7, 3) := by decide +kernel
theorem dX12_isProper_71 : decode YX12_isProper.2.1 71 = .ok (.iconst 1, 1) := by decide +kernel
theorem dX12_isProper_72 : decode YX12_isProper.2.1 72 = .ok (.goto 4, 3) := by decide +kernel
theorem dX12_isProper_75 : decode YX12_isProper.2.1 75 = .ok (.iconst 0, 1) := by decide +kernel
theorem dX12_isProper_76 : decode YX12_isProper.2.1 76 = .ok (.istore 4, 2) := by decide +kernel
theorem dX12_isProper_78 : decode YX12_isProper.2.1 78 = .ok (.iinc 5 1, 3) := by decide +kernel
theorem dX12_isProper_81 : decode YX12_isProper.2.1 81 = .ok (.goto (-57), 3) := by decide +kernel
theorem dX12_isProper_84 : decode YX12_isProper.2.1 84 = .ok (.aload_n 0, 1) := by decide +kernel
theorem dX12_isProper_85 : decode YX12_isProper.2.1 85 = .ok (.invokevirtual 340, 3) := by decide +kernel
theorem dX12_isProper_88 : decode YX12_isProper.2.1 88 = .ok (.iload 4, 2) := by decide +kernel
theorem dX12_isProper_90 : decode YX12_isProper.2.1 90 = .ok (.ireturn, 1) := by decide +kernel
theorem dX12_isReached_0 : decode YX12_isReached.2.1 0 = .ok (.iconst 1, 1) := by decide +kernel
theorem dX12_isReached_1 : decode YX12_isReached.2.1 1 = .ok (.iload_n 1, 1) := by decide +kernel
theorem dX12_isReached_2 : decode YX12_isReached.2.1 2 = .ok (.ishl, 1) := by decide +kernel
theorem dX12_isReached_3 : decode YX12_isReached.2.1 3 = .ok (.istore 4, 2) := by decide +kernel
theorem dX12_isReached_5 : decode YX12_isReached.2.1 5 = .ok (.iconst 0, 1) := by decide +kernel
theorem dX12_isReached_6 : decode YX12_isReached.2.1 6 = .ok (.istore 5, 2) := by decide +kernel
theorem dX12_isReached_8 : decode YX12_isReached.2.1 8 = .ok (.iload 5, 2) := by decide +kernel
theorem dX12_isReached_10 : decode YX12_isReached.2.1 10 = .ok (.bipush 8, 2) := by decide +kernel
theorem dX12_isReached_12 : decode YX12_isReached.2.1 12 = .ok (.if_icmp .ge 61, 3) := by decide +kernel
theorem dX12_isReached_15 : decode YX12_isReached.2.1 15 = .ok (.iconst 0, 1) := by decide +kernel
theorem dX12_isReached_16 : decode YX12_isReached.2.1 16 = .ok (.istore 6, 2) := by decide +kernel
theorem dX12_isReached_18 : decode YX12_isReached.2.1 18 = .ok (.iload 6, 2) := by decide +kernel
theorem dX12_isReached_20 : decode YX12_isReached.2.1 20 = .ok (.aload_n 0, 1) := by decide +kernel
theorem dX12_isReached_21 : decode YX12_isReached.2.1 21 = .ok (.getfield 33, 3) := by decide +kernel
theorem dX12_isReached_24 : decode YX12_isReached.2.1 24 = .ok (.iconst 0, 1) := by decide +kernel
theorem dX12_isReached_25 : decode YX12_isReached.2.1 25 = .ok (.iaload, 1) := by decide +kernel
theorem dX12_isReached_26 : decode YX12_isReached.2.1 26 = .ok (.if_icmp .ge 41, 3) := by decide +kernel
theorem dX12_isReached_29 : decode YX12_isReached.2.1 29 = .ok (.iload 4, 2) := by decide +kernel
theorem dX12_isReached_31 : decode YX12_isReached.2.1 31 = .ok (.iload 4, 2) := by decide +kernel
theorem dX12_isReached_33 : decode YX12_isReached.2.1 33 = .ok (.iload 6, 2) := by decide +kernel
theorem dX12_isReached_35 : decode YX12_isReached.2.1 35 = .ok (.invokestatic 235, 3) := by decide +kernel
theorem dX12_isReached_38 : decode YX12_isReached.2.1 38 = .ok (.ifCond .eq 19, 3) := by decide +kernel
theorem dX12_isReached_41 : decode YX12_isReached.2.1 41 = .ok (.aload_n 0, 1) := by decide +kernel
theorem dX12_isReached_42 : decode YX12_isReached.2.1 42 = .ok (.getfield 33, 3) := by decide +kernel
theorem dX12_isReached_45 : decode YX12_isReached.2.1 45 = .ok (.iconst 3, 1) := by decide +kernel
theorem dX12_isReached_46 : decode YX12_isReached.2.1 46 = .ok (.iload 6, 2) := by decide +kernel
theorem dX12_isReached_48 : decode YX12_isReached.2.1 48 = .ok (.iadd, 1) := by decide +kernel
theorem dX12_isReached_49 : decode YX12_isReached.2.1 49 = .ok (.iaload, 1) := by decide +kernel
theorem dX12_isReached_50 : decode YX12_isReached.2.1 50 = .ok (.iload_n 3, 1) := by decide +kernel
theorem dX12_isReached_51 : decode YX12_isReached.2.1 51 = .ok (.iconst (-1), 1) := by decide +kernel
theorem dX12_isReached_52 : decode YX12_isReached.2.1 52 = .ok (.ixor, 1) := by decide +kernel
theorem dX12_isReached_53 : decode YX12_isReached.2.1 53 = .ok (.iand, 1) := by decide +kernel
theorem dX12_isReached_54 : decode YX12_isReached.2.1 54 = .ok (.goto 4, 3) := by decide +kernel
theorem dX12_isReached_57 : decode YX12_isReached.2.1 57 = .ok (.iconst 0, 1) := by decide +kernel
theorem dX12_isReached_58 : decode YX12_isReached.2.1 58 = .ok (.ior, 1) := by decide +kernel
theorem dX12_isReached_59 : decode YX12_isReached.2.1 59 = .ok (.istore 4, 2) := by decide +kernel
theorem dX12_isReached_61 : decode YX12_isReached.2.1 61 = .ok (.iinc 6 1, 3) := by decide +kernel
theorem dX12_isReached_64 : decode YX12_isReached.2.1 64 = .ok (.goto (-46), 3) := by decide +kernel
theorem dX12_isReached_67 : decode YX12_isReached.2.1 67 = .ok (.iinc 5 1, 3) := by decide +kernel
theorem dX12_isReached_70 : decode YX12_isReached.2.1 70 = .ok (.goto (-62), 3) := by decide +kernel
theorem dX12_isReached_73 : decode YX12_isReached.2.1 73 = .ok (.iload 4, 2) := by decide +kernel
theorem dX12_isReached_75 : decode YX12_isReached.2.1 75 = .ok (.iload_n 2, 1) := by decide +kernel
theorem dX12_isReached_76 : decode YX12_isReached.2.1 76 = .ok (.invokestatic 235, 3) := by decide +kernel
theorem dX12_isReached_79 : decode YX12_isReached.2.1 79 = .ok (.ireturn, 1) := by decide +kernel
theorem dX12_isSaid_0 : decode YX12_isSaid.2.1 0 = .ok (.iconst 0, 1) := by decide +kernel
theorem dX12_isSaid_1 : decode YX12_isSaid.2.1 1 = .ok (.istore_n 2, 1) := by decide +kernel
theorem dX12_isSaid_2 : decode YX12_isSaid.2.1 2 = .ok (.iconst 0, 1) := by decide +kernel
theorem dX12_isSaid_3 : decode YX12_isSaid.2.1 3 = .ok (.istore_n 3, 1) := by decide +kernel
theorem dX12_isSaid_4 : decode YX12_isSaid.2.1 4 = .ok (.iload_n 3, 1) := by decide +kernel
theorem dX12_isSaid_5 : decode YX12_isSaid.2.1 5 = .ok (.aload_n 0, 1) := by decide +kernel
theorem dX12_isSaid_6 : decode YX12_isSaid.2.1 6 = .ok (.getfield 33, 3) := by decide +kernel
theorem dX12_isSaid_9 : decode YX12_isSaid.2.1 9 = .ok (.sipush 216, 3) := by decide +kernel
theorem dX12_isSaid_12 : decode YX12_isSaid.2.1 12 = .ok (.iaload, 1) := by decide +kernel
theorem dX12_isSaid_13 : decode YX12_isSaid.2.1 13 = .ok (.if_icmp .ge 199, 3) := by decide +kernel
theorem dX12_isSaid_16 : decode YX12_isSaid.2.1 16 = .ok (.sipush 217, 3) := by decide +kernel
theorem dX12_isSaid_19 : decode YX12_isSaid.2.1 19 = .ok (.iconst 3, 1) := by decide +kernel
theorem dX12_isSaid_20 : decode YX12_isSaid.2.1 20 = .ok (.iload_n 3, 1) := by decide +kernel
theorem dX12_isSaid_21 : decode YX12_isSaid.2.1 21 = .ok (.imul, 1) := by decide +kernel
theorem dX12_isSaid_22 : decode YX12_isSaid.2.1 22 = .ok (.iadd, 1) := by decide +kernel
theorem dX12_isSaid_23 : decode YX12_isSaid.2.1 23 = .ok (.istore 4, 2) := by decide +kernel
theorem dX12_isSaid_25 : decode YX12_isSaid.2.1 25 = .ok (.aload_n 0, 1) := by decide +kernel
theorem dX12_isSaid_26 : decode YX12_isSaid.2.1 26 = .ok (.getfield 33, 3) := by decide +kernel
theorem dX12_isSaid_29 : decode YX12_isSaid.2.1 29 = .ok (.iload 4, 2) := by decide +kernel
theorem dX12_isSaid_31 : decode YX12_isSaid.2.1 31 = .ok (.iaload, 1) := by decide +kernel
theorem dX12_isSaid_32 : decode YX12_isSaid.2.1 32 = .ok (.bipush 20, 2) := by decide +kernel
theorem dX12_isSaid_34 : decode YX12_isSaid.2.1 34 = .ok (.if_icmp .ne 30, 3) := by decide +kernel
theorem dX12_isSaid_37 : decode YX12_isSaid.2.1 37 = .ok (.aload_n 0, 1) := by decide +kernel
theorem dX12_isSaid_38 : decode YX12_isSaid.2.1 38 = .ok (.getfield 86, 3) := by decide +kernel
theorem dX12_isSaid_41 : decode YX12_isSaid.2.1 41 = .ok (.iload_n 2, 1) := by decide +kernel
theorem dX12_isSaid_42 : decode YX12_isSaid.2.1 42 = .ok (.iconst 1, 1) := by decide +kernel
theorem dX12_isSaid_43 : decode YX12_isSaid.2.1 43 = .ok (.isub, 1) := by decide +kernel
theorem dX12_isSaid_44 : decode YX12_isSaid.2.1 44 = .ok (.aload_n 0, 1) := by decide +kernel
theorem dX12_isSaid_45 : decode YX12_isSaid.2.1 45 = .ok (.getfield 86, 3) := by decide +kernel
theorem dX12_isSaid_48 : decode YX12_isSaid.2.1 48 = .ok (.iload_n 2, 1) := by decide +kernel
theorem dX12_isSaid_49 : decode YX12_isSaid.2.1 49 = .ok (.iconst 1, 1) := by decide +kernel
theorem dX12_isSaid_50 : decode YX12_isSaid.2.1 50 = .ok (.isub, 1) := by decide +kernel
theorem dX12_isSaid_51 : decode YX12_isSaid.2.1 51 = .ok (.baload, 1) := by decide +kernel
theorem dX12_isSaid_52 : decode YX12_isSaid.2.1 52 = .ok (.ifCond .ne 7, 3) := by decide +kernel
theorem dX12_isSaid_55 : decode YX12_isSaid.2.1 55 = .ok (.iconst 1, 1) := by decide +kernel
theorem dX12_isSaid_56 : decode YX12_isSaid.2.1 56 = .ok (.goto 4, 3) := by decide +kernel
theorem dX12_isSaid_59 : decode YX12_isSaid.2.1 59 = .ok (.iconst 0, 1) := by decide +kernel
theorem dX12_isSaid_60 : decode YX12_isSaid.2.1 60 = .ok (.bastore, 1) := by decide +kernel
theorem dX12_isSaid_61 : decode YX12_isSaid.2.1 61 = .ok (.goto 145, 3) := by decide +kernel
theorem dX12_isSaid_64 : decode YX12_isSaid.2.1 64 = .ok (.aload_n 0, 1) := by decide +kernel
theorem dX12_isSaid_65 : decode YX12_isSaid.2.1 65 = .ok (.getfield 33, 3) := by decide +kernel
theorem dX12_isSaid_68 : decode YX12_isSaid.2.1 68 = .ok (.iload 4, 2) := by decide +kernel
theorem dX12_isSaid_70 : decode YX12_isSaid.2.1 70 = .ok (.iaload, 1) := by decide +kernel
theorem dX12_isSaid_71 : decode YX12_isSaid.2.1 71 = .ok (.bipush 21, 2) := by decide +kernel
theorem dX12_isSaid_73 : decode YX12_isSaid.2.1 73 = .ok (.if_icmp .eq 15, 3) := by decide +kernel
theorem dX12_isSaid_76 : decode YX12_isSaid.2.1 76 = .ok (.aload_n 0, 1) := by decide +kernel
theorem dX12_isSaid_77 : decode YX12_isSaid.2.1 77 = .ok (.getfield 33, 3) := by decide +kernel
theorem dX12_isSaid_80 : decode YX12_isSaid.2.1 80 = .ok (.iload 4, 2) := by decide +kernel
theorem dX12_isSaid_82 : decode YX12_isSaid.2.1 82 = .ok (.iaload, 1) := by decide +kernel
theorem dX12_isSaid_83 : decode YX12_isSaid.2.1 83 = .ok (.bipush 22, 2) := by decide +kernel
theorem dX12_isSaid_85 : decode YX12_isSaid.2.1 85 = .ok (.if_icmp .ne 82, 3) := by decide +kernel
theorem dX12_isSaid_88 : decode YX12_isSaid.2.1 88 = .ok (.iinc 2 (-1), 3) := by decide +kernel
theorem dX12_isSaid_91 : decode YX12_isSaid.2.1 91 = .ok (.aload_n 0, 1) := by decide +kernel
theorem dX12_isSaid_92 : decode YX12_isSaid.2.1 92 = .ok (.getfield 86, 3) := by decide +kernel
theorem dX12_isSaid_95 : decode YX12_isSaid.2.1 95 = .ok (.iload_n 2, 1) := by decide +kernel
theorem dX12_isSaid_96 : decode YX12_isSaid.2.1 96 = .ok (.iconst 1, 1) := by decide +kernel
theorem dX12_isSaid_97 : decode YX12_isSaid.2.1 97 = .ok (.isub, 1) := by decide +kernel
theorem dX12_isSaid_98 : decode YX12_isSaid.2.1 98 = .ok (.aload_n 0, 1) := by decide +kernel
theorem dX12_isSaid_99 : decode YX12_isSaid.2.1 99 = .ok (.getfield 33, 3) := by decide +kernel
theorem dX12_isSaid_102 : decode YX12_isSaid.2.1 102 = .ok (.iload 4, 2) := by decide +kernel
theorem dX12_isSaid_104 : decode YX12_isSaid.2.1 104 = .ok (.iaload, 1) := by decide +kernel
theorem dX12_isSaid_105 : decode YX12_isSaid.2.1 105 = .ok (.bipush 21, 2) := by decide +kernel
theorem dX12_isSaid_107 : decode YX12_isSaid.2.1 107 = .ok (.if_icmp .ne 31, 3) := by decide +kernel
theorem dX12_isSaid_110 : decode YX12_isSaid.2.1 110 = .ok (.aload_n 0, 1) := by decide +kernel
theorem dX12_isSaid_111 : decode YX12_isSaid.2.1 111 = .ok (.getfield 86, 3) := by decide +kernel
theorem dX12_isSaid_114 : decode YX12_isSaid.2.1 114 = .ok (.iload_n 2, 1) := by decide +kernel
theorem dX12_isSaid_115 : decode YX12_isSaid.2.1 115 = .ok (.iconst 1, 1) := by decide +kernel
theorem dX12_isSaid_116 : decode YX12_isSaid.2.1 116 = .ok (.isub, 1) := by decide +kernel
theorem dX12_isSaid_117 : decode YX12_isSaid.2.1 117 = .ok (.baload, 1) := by decide +kernel
theorem dX12_isSaid_118 : decode YX12_isSaid.2.1 118 = .ok (.ifCond .eq 16, 3) := by decide +kernel
theorem dX12_isSaid_121 : decode YX12_isSaid.2.1 121 = .ok (.aload_n 0, 1) := by decide +kernel
theorem dX12_isSaid_122 : decode YX12_isSaid.2.1 122 = .ok (.getfield 86, 3) := by decide +kernel
theorem dX12_isSaid_125 : decode YX12_isSaid.2.1 125 = .ok (.iload_n 2, 1) := by decide +kernel
theorem dX12_isSaid_126 : decode YX12_isSaid.2.1 126 = .ok (.baload, 1) := by decide +kernel
theorem dX12_isSaid_127 : decode YX12_isSaid.2.1 127 = .ok (.ifCond .eq 7, 3) := by decide +kernel
theorem dX12_isSaid_130 : decode YX12_isSaid.2.1 130 = .ok (.iconst 1, 1) := by decide +kernel
theorem dX12_isSaid_131 : decode YX12_isSaid.2.1 131 = .ok (.goto 32, 3) := by decide +kernel
theorem dX12_isSaid_134 : decode YX12_isSaid.2.1 134 = .ok (.iconst 0, 1) := by decide +kernel
theorem dX12_isSaid_135 : decode YX12_isSaid.2.1 135 = .ok (.goto 28, 3) := by decide +kernel
theorem dX12_isSaid_138 : decode YX12_isSaid.2.1 138 = .ok (.aload_n 0, 1) := by decide +kernel
theorem dX12_isSaid_139 : decode YX12_isSaid.2.1 139 = .ok (.getfield 86, 3) := by decide +kernel
theorem dX12_isSaid_142 : decode YX12_isSaid.2.1 142 = .ok (.iload_n 2, 1) := by decide +kernel
theorem dX12_isSaid_143 : decode YX12_isSaid.2.1 143 = .ok (.iconst 1, 1) := by decide +kernel
theorem dX12_isSaid_144 : decode YX12_isSaid.2.1 144 = .ok (.isub, 1) := by decide +kernel
theorem dX12_isSaid_145 : decode YX12_isSaid.2.1 145 = .ok (.baload, 1) := by decide +kernel
theorem dX12_isSaid_146 : decode YX12_isSaid.2.1 146 = .ok (.ifCond .ne 12, 3) := by decide +kernel
theorem dX12_isSaid_149 : decode YX12_isSaid.2.1 149 = .ok (.aload_n 0, 1) := by decide +kernel
theorem dX12_isSaid_150 : decode YX12_isSaid.2.1 150 = .ok (.getfield 86, 3) := by decide +kernel
theorem dX12_isSaid_153 : decode YX12_isSaid.2.1 153 = .ok (.iload_n 2, 1) := by decide +kernel
theorem dX12_isSaid_154 : decode YX12_isSaid.2.1 154 = .ok (.baload, 1) := by decide +kernel
theorem dX12_isSaid_155 : decode YX12_isSaid.2.1 155 = .ok (.ifCond .eq 7, 3) := by decide +kernel
theorem dX12_isSaid_158 : decode YX12_isSaid.2.1 158 = .ok (.iconst 1, 1) := by decide +kernel
theorem dX12_isSaid_159 : decode YX12_isSaid.2.1 159 = .ok (.goto 4, 3) := by decide +kernel
theorem dX12_isSaid_162 : decode YX12_isSaid.2.1 162 = .ok (.iconst 0, 1) := by decide +kernel
theorem dX12_isSaid_163 : decode YX12_isSaid.2.1 163 = .ok (.bastore, 1) := by decide +kernel
theorem dX12_isSaid_164 : decode YX12_isSaid.2.1 164 = .ok (.goto 42, 3) := by decide +kernel
theorem dX12_isSaid_167 : decode YX12_isSaid.2.1 167 = .ok (.aload_n 0, 1) := by decide +kernel
theorem dX12_isSaid_168 : decode YX12_isSaid.2.1 168 = .ok (.getfield 86, 3) := by decide +kernel
theorem dX12_isSaid_171 : decode YX12_isSaid.2.1 171 = .ok (.iload_n 2, 1) := by decide +kernel
theorem dX12_isSaid_172 : decode YX12_isSaid.2.1 172 = .ok (.aload_n 0, 1) := by decide +kernel
theorem dX12_isSaid_173 : decode YX12_isSaid.2.1 173 = .ok (.iload_n 1, 1) := by decide +kernel
theorem dX12_isSaid_174 : decode YX12_isSaid.2.1 174 = .ok (.aload_n 0, 1) := by decide +kernel
theorem dX12_isSaid_175 : decode YX12_isSaid.2.1 175 = .ok (.getfield 33, 3) := by decide +kernel
theorem dX12_isSaid_178 : decode YX12_isSaid.2.1 178 = .ok (.iload 4, 2) := by decide +kernel
theorem dX12_isSaid_180 : decode YX12_isSaid.2.1 180 = .ok (.iaload, 1) := by decide +kernel
theorem dX12_isSaid_181 : decode YX12_isSaid.2.1 181 = .ok (.aload_n 0, 1) := by decide +kernel
theorem dX12_isSaid_182 : decode YX12_isSaid.2.1 182 = .ok (.getfield 33, 3) := by decide +kernel
theorem dX12_isSaid_185 : decode YX12_isSaid.2.1 185 = .ok (.iload 4, 2) := by decide +kernel
theorem dX12_isSaid_187 : decode YX12_isSaid.2.1 187 = .ok (.iconst 1, 1) := by decide +kernel
theorem dX12_isSaid_188 : decode YX12_isSaid.2.1 188 = .ok (.iadd, 1) := by decide +kernel
theorem dX12_isSaid_189 : decode YX12_isSaid.2.1 189 = .ok (.iaload, 1) := by decide +kernel
theorem dX12_isSaid_190 : decode YX12_isSaid.2.1 190 = .ok (.aload_n 0, 1) := by decide +kernel
theorem dX12_isSaid_191 : decode YX12_isSaid.2.1 191 = .ok (.getfield 33, 3) := by decide +kernel
theorem dX12_isSaid_194 : decode YX12_isSaid.2.1 194 = .ok (.iload 4, 2) := by decide +kernel
theorem dX12_isSaid_196 : decode YX12_isSaid.2.1 196 = .ok (.iconst 2, 1) := by decide +kernel
theorem dX12_isSaid_197 : decode YX12_isSaid.2.1 197 = .ok (.iadd, 1) := by decide +kernel
theorem dX12_isSaid_198 : decode YX12_isSaid.2.1 198 = .ok (.iaload, 1) := by decide +kernel
theorem dX12_isSaid_199 : decode YX12_isSaid.2.1 199 = .ok (.invokevirtual 462, 3) := by decide +kernel
theorem dX12_isSaid_202 : decode YX12_isSaid.2.1 202 = .ok (.bastore, 1) := by decide +kernel
theorem dX12_isSaid_203 : decode YX12_isSaid.2.1 203 = .ok (.iinc 2 1, 3) := by decide +kernel
theorem dX12_isSaid_206 : decode YX12_isSaid.2.1 206 = .ok (.iinc 3 1, 3) := by decide +kernel
theorem dX12_isSaid_209 : decode YX12_isSaid.2.1 209 = .ok (.goto (-205), 3) := by decide +kernel
theorem dX12_isSaid_212 : decode YX12_isSaid.2.1 212 = .ok (.aload_n 0, 1) := by decide +kernel
theorem dX12_isSaid_213 : decode YX12_isSaid.2.1 213 = .ok (.getfield 86, 3) := by decide +kernel
theorem dX12_isSaid_216 : decode YX12_isSaid.2.1 216 = .ok (.iconst 0, 1) := by decide +kernel
theorem dX12_isSaid_217 : decode YX12_isSaid.2.1 217 = .ok (.baload, 1) := by decide +kernel
theorem dX12_isSaid_218 : decode YX12_isSaid.2.1 218 = .ok (.ireturn, 1) := by decide +kernel
theorem dX12_isSign_0 : decode YX12_isSign.2.1 0 = .ok (.aload_n 0, 1) := by decide +kernel
theorem dX12_isSign_1 : decode YX12_isSign.2.1 1 = .ok (.getfield 156, 3) := by decide +kernel
theorem dX12_isSign_4 : decode YX12_isSign.2.1 4 = .ok (.iconst 3, 1) := by decide +kernel
theorem dX12_isSign_5 : decode YX12_isSign.2.1 5 = .ok (.if_icmp .ne 15, 3) := by decide +kernel
theorem dX12_isSign_8 : decode YX12_isSign.2.1 8 = .ok (.aload_n 0, 1) := by decide +kernel
theorem dX12_isSign_9 : decode YX12_isSign.2.1 9 = .ok (.getfield 166, 3) := by decide +kernel
theorem dX12_isSign_12 : decode YX12_isSign.2.1 12 = .ok (.iload_n 1, 1) := by decide +kernel
theorem dX12_isSign_13 : decode YX12_isSign.2.1 13 = .ok (.if_icmp .ne 7, 3) := by decide +kernel
theorem dX12_isSign_16 : decode YX12_isSign.2.1 16 = .ok (.iconst 1, 1) := by decide +kernel
theorem dX12_isSign_17 : decode YX12_isSign.2.1 17 = .ok (.goto 4, 3) := by decide +kernel
theorem dX12_isSign_20 : decode YX12_isSign.2.1 20 = .ok (.iconst 0, 1) := by decide +kernel
theorem dX12_isSign_21 : decode YX12_isSign.2.1 21 = .ok (.ireturn, 1) := by decide +kernel
theorem dX12_isSmall_0 : decode YX12_isSmall.2.1 0 = .ok (.iload_n 0, 1) := by decide +kernel
theorem dX12_isSmall_1 : decode YX12_isSmall.2.1 1 = .ok (.bipush 97, 2) := by decide +kernel
theorem dX12_isSmall_3 : decode YX12_isSmall.2.1 3 = .ok (.if_icmp .lt 13, 3) := by decide +kernel
theorem dX12_isSmall_6 : decode YX12_isSmall.2.1 6 = .ok (.iload_n 0, 1) := by decide +kernel
theorem dX12_isSmall_7 : decode YX12_isSmall.2.1 7 = .ok (.bipush 122, 2) := by decide +kernel
theorem dX12_isSmall_9 : decode YX12_isSmall.2.1 9 = .ok (.if_icmp .gt 7, 3) := by decide +kernel
theorem dX12_isSmall_12 : decode YX12_isSmall.2.1 12 = .ok (.iconst 1, 1) := by decide +kernel
theorem dX12_isSmall_13 : decode YX12_isSmall.2.1 13 = .ok (.goto 4, 3) := by decide +kernel
theorem dX12_isSmall_16 : decode YX12_isSmall.2.1 16 = .ok (.iconst 0, 1) := by decide +kernel
theorem dX12_isSmall_17 : decode YX12_isSmall.2.1 17 = .ok (.ireturn, 1) := by decide +kernel
theorem dX12_isWord_0 : decode YX12_isWord.2.1 0 = .ok (.aload_n 0, 1) := by decide +kernel
theorem dX12_isWord_1 : decode YX12_isWord.2.1 1 = .ok (.getfield 156, 3) := by decide +kernel
theorem dX12_isWord_4 : decode YX12_isWord.2.1 4 = .ok (.iconst 1, 1) := by decide +kernel
theorem dX12_isWord_5 : decode YX12_isWord.2.1 5 = .ok (.if_icmp .ne 16, 3) := by decide +kernel
theorem dX12_isWord_8 : decode YX12_isWord.2.1 8 = .ok (.aload_n 0, 1) := by decide +kernel
theorem dX12_isWord_9 : decode YX12_isWord.2.1 9 = .ok (.getfield 169, 3) := by decide +kernel
theorem dX12_isWord_12 : decode YX12_isWord.2.1 12 = .ok (.lload_n 1, 1) := by decide +kernel
theorem dX12_isWord_13 : decode YX12_isWord.2.1 13 = .ok (.lcmp, 1) := by decide +kernel
theorem dX12_isWord_14 : decode YX12_isWord.2.1 14 = .ok (.ifCond .ne 7, 3) := by decide +kernel
theorem dX12_isWord_17 : decode YX12_isWord.2.1 17 = .ok (.iconst 1, 1) := by decide +kernel
theorem dX12_isWord_18 : decode YX12_isWord.2.1 18 = .ok (.goto 4, 3) := by decide +kernel
theorem dX12_isWord_21 : decode YX12_isWord.2.1 21 = .ok (.iconst 0, 1) := by decide +kernel
theorem dX12_isWord_22 : decode YX12_isWord.2.1 22 = .ok (.ireturn, 1) := by decide +kernel
theorem dX12_joins_0 : decode YX12_joins.2.1 0 = .ok (.aload_n 0, 1) := by decide +kernel
theorem dX12_joins_1 : decode YX12_joins.2.1 1 = .ok (.getfield 432, 3) := by decide +kernel
theorem dX12_joins_4 : decode YX12_joins.2.1 4 = .ok (.ifCond .le 69, 3) := by decide +kernel
theorem dX12_joins_7 : decode YX12_joins.2.1 7 = .ok (.aload_n 0, 1) := by decide +kernel
theorem dX12_joins_8 : decode YX12_joins.2.1 8 = .ok (.getfield 83, 3) := by decide +kernel
theorem dX12_joins_11 : decode YX12_joins.2.1 11 = .ok (.aload_n 0, 1) := by decide +kernel
theorem dX12_joins_12 : decode YX12_joins.2.1 12 = .ok (.getfield 432, 3) := by decide +kernel
theorem dX12_joins_15 : decode YX12_joins.2.1 15 = .ok (.iconst 1, 1) := by decide +kernel
theorem dX12_joins_16 : decode YX12_joins.2.1 16 = .ok (.isub, 1) := by decide +kernel
theorem dX12_joins_17 : decode YX12_joins.2.1 17 = .ok (.iaload, 1) := by decide +kernel
theorem dX12_joins_18 : decode YX12_joins.2.1 18 = .ok (.bipush 21, 2) := by decide +kernel
theorem dX12_joins_20 : decode YX12_joins.2.1 20 = .ok (.if_icmp .eq 25, 3) := by decide +kernel
theorem dX12_joins_23 : decode YX12_joins.2.1 23 = .ok (.aload_n 0, 1) := by decide +kernel
theorem dX12_joins_24 : decode YX12_joins.2.1 24 = .ok (.getfield 83, 3) := by decide +kernel
theorem dX12_joins_27 : decode YX12_joins.2.1 27 = .ok (.aload_n 0, 1) := by decide +kernel
theorem dX12_joins_28 : decode YX12_joins.2.1 28 = .ok (.getfield 432, 3) := by decide +kernel
theorem dX12_joins_31 : decode YX12_joins.2.1 31 = .ok (.iconst 1, 1) := by decide +kernel
theorem dX12_joins_32 : decode YX12_joins.2.1 32 = .ok (.isub, 1) := by decide +kernel
theorem dX12_joins_33 : decode YX12_joins.2.1 33 = .ok (.iaload, 1) := by decide +kernel
theorem dX12_joins_34 : decode YX12_joins.2.1 34 = .ok (.bipush 22, 2) := by decide +kernel
theorem dX12_joins_36 : decode YX12_joins.2.1 36 = .ok (.if_icmp .ne 37, 3) := by decide +kernel
theorem dX12_joins_39 : decode YX12_joins.2.1 39 = .ok (.iload_n 1, 1) := by decide +kernel
theorem dX12_joins_40 : decode YX12_joins.2.1 40 = .ok (.bipush 22, 2) := by decide +kernel
theorem dX12_joins_42 : decode YX12_joins.2.1 42 = .ok (.if_icmp .ne 31, 3) := by decide +kernel
theorem dX12_joins_45 : decode YX12_joins.2.1 45 = .ok (.aload_n 0, 1) := by decide +kernel
theorem dX12_joins_46 : decode YX12_joins.2.1 46 = .ok (.dup, 1) := by decide +kernel
theorem dX12_joins_47 : decode YX12_joins.2.1 47 = .ok (.getfield 432, 3) := by decide +kernel
theorem dX12_joins_50 : decode YX12_joins.2.1 50 = .ok (.iconst 1, 1) := by decide +kernel
theorem dX12_joins_51 : decode YX12_joins.2.1 51 = .ok (.isub, 1) := by decide +kernel
theorem dX12_joins_52 : decode YX12_joins.2.1 52 = .ok (.putfield 432, 3) := by decide +kernel
theorem dX12_joins_55 : decode YX12_joins.2.1 55 = .ok (.aload_n 0, 1) := by decide +kernel
theorem dX12_joins_56 : decode YX12_joins.2.1 56 = .ok (.aload_n 0, 1) := by decide +kernel
theorem dX12_joins_57 : decode YX12_joins.2.1 57 = .ok (.getfield 83, 3) := by decide +kernel
theorem dX12_joins_60 : decode YX12_joins.2.1 60 = .ok (.aload_n 0, 1) := by decide +kernel
theorem dX12_joins_61 : decode YX12_joins.2.1 61 = .ok (.getfield 432, 3) := by decide +kernel
theorem dX12_joins_64 : decode YX12_joins.2.1 64 = .ok (.iaload, 1) := by decide +kernel
theorem dX12_joins_65 : decode YX12_joins.2.1 65 = .ok (.iconst 0, 1) := by decide +kernel
theorem dX12_joins_66 : decode YX12_joins.2.1 66 = .ok (.iconst 0, 1) := by decide +kernel
theorem dX12_joins_67 : decode YX12_joins.2.1 67 = .ok (.invokevirtual 435, 3) := by decide +kernel
theorem dX12_joins_70 : decode YX12_joins.2.1 70 = .ok (.goto (-70), 3) := by decide +kernel
theorem dX12_joins_73 : decode YX12_joins.2.1 73 = .ok (.return_, 1) := by decide +kernel
theorem dX12_keep_0 : decode YX12_keep.2.1 0 = .ok (.aload_n 0, 1) := by decide +kernel
theorem dX12_keep_1 : decode YX12_keep.2.1 1 = .ok (.getfield 256, 3) := by decide +kernel
theorem dX12_keep_4 : decode YX12_keep.2.1 4 = .ok (.bipush 8, 2) := by decide +kernel
theorem dX12_keep_6 : decode YX12_keep.2.1 6 = .ok (.if_icmp .ne 39, 3) := by decide +kernel
theorem dX12_keep_9 : decode YX12_keep.2.1 9 = .ok (.iconst 0, 1) := by decide +kernel
theorem dX12_keep_10 : decode YX12_keep.2.1 10 = .ok (.istore_n 1, 1) := by decide +kernel
theorem dX12_keep_11 : decode YX12_keep.2.1 11 = .ok (.iload_n 1, 1) := by decide +kernel
theorem dX12_keep_12 : decode YX12_keep.2.1 12 = .ok (.sipush 889, 3) := by decide +kernel
theorem dX12_keep_15 : decode YX12_keep.2.1 15 = .ok (.if_icmp .ge 24, 3) := by decide +kernel
theorem dX12_keep_18 : decode YX12_keep.2.1 18 = .ok (.aload_n 0, 1) := by decide +kernel
theorem dX12_keep_19 : decode YX12_keep.2.1 19 = .ok (.getfield 56, 3) := by decide +kernel
theorem dX12_keep_22 : decode YX12_keep.2.1 22 = .ok (.iload_n 1, 1) := by decide +kernel
theorem dX12_keep_23 : decode YX12_keep.2.1 23 = .ok (.aload_n 0, 1) := by decide +kernel
theorem dX12_keep_24 : decode YX12_keep.2.1 24 = .ok (.getfield 56, 3) := by decide +kernel
theorem dX12_keep_27 : decode YX12_keep.2.1 27 = .ok (.iload_n 1, 1) := by decide +kernel
theorem dX12_keep_28 : decode YX12_keep.2.1 28 = .ok (.bipush 127, 2) := by decide +kernel
theorem dX12_keep_30 : decode YX12_keep.2.1 30 = .ok (.iadd, 1) := by decide +kernel
theorem dX12_keep_31 : decode YX12_keep.2.1 31 = .ok (.iaload, 1) := by decide +kernel
theorem dX12_keep_32 : decode YX12_keep.2.1 32 = .ok (.iastore, 1) := by decide +kernel
theorem dX12_keep_33 : decode YX12_keep.2.1 33 = .ok (.iinc 1 1, 3) := by decide +kernel
theorem dX12_keep_36 : decode YX12_keep.2.1 36 = .ok (.goto (-25), 3) := by decide +kernel
theorem dX12_keep_39 : decode YX12_keep.2.1 39 = .ok (.aload_n 0, 1) := by decide +kernel
theorem dX12_keep_40 : decode YX12_keep.2.1 40 = .ok (.bipush 7, 2) := by decide +kernel
theorem dX12_keep_42 : decode YX12_keep.2.1 42 = .ok (.putfield 256, 3) := by decide +kernel
theorem dX12_keep_45 : decode YX12_keep.2.1 45 = .ok (.iconst 0, 1) := by decide +kernel
theorem dX12_keep_46 : decode YX12_keep.2.1 46 = .ok (.istore_n 1, 1) := by decide +kernel
theorem dX12_keep_47 : decode YX12_keep.2.1 47 = .ok (.iload_n 1, 1) := by decide +kernel
theorem dX12_keep_48 : decode YX12_keep.2.1 48 = .ok (.bipush 127, 2) := by decide +kernel
theorem dX12_keep_50 : decode YX12_keep.2.1 50 = .ok (.if_icmp .ge 32, 3) := by decide +kernel
theorem dX12_keep_53 : decode YX12_keep.2.1 53 = .ok (.aload_n 0, 1) := by decide +kernel
theorem dX12_keep_54 : decode YX12_keep.2.1 54 = .ok (.getfield 56, 3) := by decide +kernel
theorem dX12_keep_57 : decode YX12_keep.2.1 57 = .ok (.bipush 127, 2) := by decide +kernel
theorem dX12_keep_59 : decode YX12_keep.2.1 59 = .ok (.aload_n 0, 1) := by decide +kernel
theorem dX12_keep_60 : decode YX12_keep.2.1 60 = .ok (.getfield 256, 3) := by decide +kernel
theorem dX12_keep_63 : decode YX12_keep.2.1 63 = .ok (.imul, 1) := by decide +kernel
theorem dX12_keep_64 : decode YX12_keep.2.1 64 = .ok (.iload_n 1, 1) := by decide +kernel
theorem dX12_keep_65 : decode YX12_keep.2.1 65 = .ok (.iadd, 1) := by decide +kernel
theorem dX12_keep_66 : decode YX12_keep.2.1 66 = .ok (.aload_n 0, 1) := by decide +kernel
theorem dX12_keep_67 : decode YX12_keep.2.1 67 = .ok (.getfield 33, 3) := by decide +kernel
theorem dX12_keep_70 : decode YX12_keep.2.1 70 = .ok (.bipush 89, 2) := by decide +kernel
theorem dX12_keep_72 : decode YX12_keep.2.1 72 = .ok (.iload_n 1, 1) := by decide +kernel
theorem dX12_keep_73 : decode YX12_keep.2.1 73 = .ok (.iadd, 1) := by decide +kernel
theorem dX12_keep_74 : decode YX12_keep.2.1 74 = .ok (.iaload, 1) := by decide +kernel
theorem dX12_keep_75 : decode YX12_keep.2.1 75 = .ok (.iastore, 1) := by decide +kernel
theorem dX12_keep_76 : decode YX12_keep.2.1 76 = .ok (.iinc 1 1, 3) := by decide +kernel
theorem dX12_keep_79 : decode YX12_keep.2.1 79 = .ok (.goto (-32), 3) := by decide +kernel
theorem dX12_keep_82 : decode YX12_keep.2.1 82 = .ok (.aload_n 0, 1) := by decide +kernel
theorem dX12_keep_83 : decode YX12_keep.2.1 83 = .ok (.dup, 1) := by decide +kernel
theorem dX12_keep_84 : decode YX12_keep.2.1 84 = .ok (.getfield 256, 3) := by decide +kernel
theorem dX12_keep_87 : decode YX12_keep.2.1 87 = .ok (.iconst 1, 1) := by decide +kernel
theorem dX12_keep_88 : decode YX12_keep.2.1 88 = .ok (.iadd, 1) := by decide +kernel
theorem dX12_keep_89 : decode YX12_keep.2.1 89 = .ok (.putfield 256, 3) := by decide +kernel
theorem dX12_keep_92 : decode YX12_keep.2.1 92 = .ok (.return_, 1) := by decide +kernel
theorem dX12_lastOf_0 : decode YX12_lastOf.2.1 0 = .ok (.iconst 1, 1) := by decide +kernel
theorem dX12_lastOf_1 : decode YX12_lastOf.2.1 1 = .ok (.iload_n 1, 1) := by decide +kernel
theorem dX12_lastOf_2 : decode YX12_lastOf.2.1 2 = .ok (.ishl, 1) := by decide +kernel
theorem dX12_lastOf_3 : decode YX12_lastOf.2.1 3 = .ok (.istore_n 2, 1) := by decide +kernel
theorem dX12_lastOf_4 : decode YX12_lastOf.2.1 4 = .ok (.iload_n 1, 1) := by decide +kernel
theorem dX12_lastOf_5 : decode YX12_lastOf.2.1 5 = .ok (.istore_n 3, 1) := by decide +kernel
theorem dX12_lastOf_6 : decode YX12_lastOf.2.1 6 = .ok (.aload_n 0, 1) := by decide +kernel
theorem dX12_lastOf_7 : decode YX12_lastOf.2.1 7 = .ok (.iload_n 3, 1) := by decide +kernel
theorem dX12_lastOf_8 : decode YX12_lastOf.2.1 8 = .ok (.invokevirtual 266, 3) := by decide +kernel
theorem dX12_lastOf_11 : decode YX12_lastOf.2.1 11 = .ok (.ifCond .lt 30, 3) := by decide +kernel
theorem dX12_lastOf_14 : decode YX12_lastOf.2.1 14 = .ok (.iload_n 2, 1) := by decide +kernel
theorem dX12_lastOf_15 : decode YX12_lastOf.2.1 15 = .ok (.aload_n 0, 1) := by decide +kernel
theorem dX12_lastOf_16 : decode YX12_lastOf.2.1 16 = .ok (.iload_n 3, 1) := by decide +kernel
theorem dX12_lastOf_17 : decode YX12_lastOf.2.1 17 = .ok (.invokevirtual 266, 3) := by decide +kernel
theorem dX12_lastOf_20 : decode YX12_lastOf.2.1 20 = .ok (.invokestatic 235, 3) := by decide +kernel
theorem dX12_lastOf_23 : decode YX12_lastOf.2.1 23 = .ok (.ifCond .ne 18, 3) := by decide +kernel
theorem dX12_lastOf_26 : decode YX12_lastOf.2.1 26 = .ok (.aload_n 0, 1) := by decide +kernel
theorem dX12_lastOf_27 : decode YX12_lastOf.2.1 27 = .ok (.iload_n 3, 1) := by decide +kernel
theorem dX12_lastOf_28 : decode YX12_lastOf.2.1 28 = .ok (.invokevirtual 266, 3) := by decide +kernel
theorem dX12_lastOf_31 : decode YX12_lastOf.2.1 31 = .ok (.istore_n 3, 1) := by decide +kernel
theorem dX12_lastOf_32 : decode YX12_lastOf.2.1 32 = .ok (.iload_n 2, 1) := by decide +kernel
theorem dX12_lastOf_33 : decode YX12_lastOf.2.1 33 = .ok (.iconst 1, 1) := by decide +kernel
theorem dX12_lastOf_34 : decode YX12_lastOf.2.1 34 = .ok (.iload_n 3, 1) := by decide +kernel
theorem dX12_lastOf_35 : decode YX12_lastOf.2.1 35 = .ok (.ishl, 1) := by decide +kernel
theorem dX12_lastOf_36 : decode YX12_lastOf.2.1 36 = .ok (.ior, 1) := by decide +kernel
theorem dX12_lastOf_37 : decode YX12_lastOf.2.1 37 = .ok (.istore_n 2, 1) := by decide +kernel
theorem dX12_lastOf_38 : decode YX12_lastOf.2.1 38 = .ok (.goto (-32), 3) := by decide +kernel
theorem dX12_lastOf_41 : decode YX12_lastOf.2.1 41 = .ok (.iload_n 3, 1) := by decide +kernel
theorem dX12_lastOf_42 : decode YX12_lastOf.2.1 42 = .ok (.ireturn, 1) := by decide +kernel
theorem dX12_lays_0 : decode YX12_lays.2.1 0 = .ok (.aload_n 0, 1) := by decide +kernel
theorem dX12_lays_1 : decode YX12_lays.2.1 1 = .ok (.getfield 77, 3) := by decide +kernel
theorem dX12_lays_4 : decode YX12_lays.2.1 4 = .ok (.aload_n 0, 1) := by decide +kernel
theorem dX12_lays_5 : decode YX12_lays.2.1 5 = .ok (.getfield 386, 3) := by decide +kernel
theorem dX12_lays_8 : decode YX12_lays.2.1 8 = .ok (.iload_n 1, 1) := by decide +kernel
theorem dX12_lays_9 : decode YX12_lays.2.1 9 = .ok (.i2b, 1) := by decide +kernel
theorem dX12_lays_10 : decode YX12_lays.2.1 10 = .ok (.bastore, 1) := by decide +kernel
theorem dX12_lays_11 : decode YX12_lays.2.1 11 = .ok (.aload_n 0, 1) := by decide +kernel
theorem dX12_lays_12 : decode YX12_lays.2.1 12 = .ok (.dup, 1) := by decide +kernel
theorem dX12_lays_13 : decode YX12_lays.2.1 13 = .ok (.getfield 386, 3) := by decide +kernel
theorem dX12_lays_16 : decode YX12_lays.2.1 16 = .ok (.iconst 1, 1) := by decide +kernel
theorem dX12_lays_17 : decode YX12_lays.2.1 17 = .ok (.iadd, 1) := by decide +kernel
theorem dX12_lays_18 : decode YX12_lays.2.1 18 = .ok (.putfield 386, 3) := by decide +kernel
theorem dX12_lays_21 : decode YX12_lays.2.1 21 = .ok (.return_, 1) := by decide +kernel
theorem dX12_laysApart_0 : decode YX12_laysApart.2.1 0 = .ok (.iconst 0, 1) := by decide +kernel
theorem dX12_laysApart_1 : decode YX12_laysApart.2.1 1 = .ok (.istore_n 1, 1) := by decide +kernel
theorem dX12_laysApart_2 : decode YX12_laysApart.2.1 2 = .ok (.iload_n 1, 1) := by decide +kernel
theorem dX12_laysApart_3 : decode YX12_laysApart.2.1 3 = .ok (.bipush 8, 2) := by decide +kernel
theorem dX12_laysApart_5 : decode YX12_laysApart.2.1 5 = .ok (.if_icmp .ge 59, 3) := by decide +kernel
theorem dX12_laysApart_8 : decode YX12_laysApart.2.1 8 = .ok (.iconst 0, 1) := by decide +kernel
theorem dX12_laysApart_9 : decode YX12_laysApart.2.1 9 = .ok (.istore_n 2, 1) := by decide +kernel
theorem dX12_laysApart_10 : decode YX12_laysApart.2.1 10 = .ok (.iload_n 2, 1) := by decide +kernel
theorem dX12_laysApart_11 : decode YX12_laysApart.2.1 11 = .ok (.bipush 8, 2) := by decide +kernel
theorem dX12_laysApart_13 : decode YX12_laysApart.2.1 13 = .ok (.if_icmp .ge 45, 3) := by decide +kernel
theorem dX12_laysApart_16 : decode YX12_laysApart.2.1 16 = .ok (.aload_n 0, 1) := by decide +kernel
theorem dX12_laysApart_17 : decode YX12_laysApart.2.1 17 = .ok (.getfield 50, 3) := by decide +kernel
theorem dX12_laysApart_20 : decode YX12_laysApart.2.1 20 = .ok (.bipush 8, 2) := by decide +kernel
theorem dX12_laysApart_22 : decode YX12_laysApart.2.1 22 = .ok (.iload_n 1, 1) := by decide +kernel
theorem dX12_laysApart_23 : decode YX12_laysApart.2.1 23 = .ok (.imul, 1) := by decide +kernel
theorem dX12_laysApart_24 : decode YX12_laysApart.2.1 24 = .ok (.iload_n 2, 1) := by decide +kernel
theorem dX12_laysApart_25 : decode YX12_laysApart.2.1 25 = .ok (.iadd, 1) := by decide +kernel
theorem dX12_laysApart_26 : decode YX12_laysApart.2.1 26 = .ok (.iload_n 1, 1) := by decide +kernel
theorem dX12_laysApart_27 : decode YX12_laysApart.2.1 27 = .ok (.iload_n 2, 1) := by decide +kernel
theorem dX12_laysApart_28 : decode YX12_laysApart.2.1 28 = .ok (.if_icmp .ne 7, 3) := by decide +kernel
theorem dX12_laysApart_31 : decode YX12_laysApart.2.1 31 = .ok (.iconst 0, 1) := by decide +kernel
theorem dX12_laysApart_32 : decode YX12_laysApart.2.1 32 = .ok (.goto 19, 3) := by decide +kernel
theorem dX12_laysApart_35 : decode YX12_laysApart.2.1 35 = .ok (.aload_n 0, 1) := by decide +kernel
theorem dX12_laysApart_36 : decode YX12_laysApart.2.1 36 = .ok (.iload_n 1, 1) := by decide +kernel
theorem dX12_laysApart_37 : decode YX12_laysApart.2.1 37 = .ok (.iload_n 2, 1) := by decide +kernel
theorem dX12_laysApart_38 : decode YX12_laysApart.2.1 38 = .ok (.invokevirtual 259, 3) := by decide +kernel
theorem dX12_laysApart_41 : decode YX12_laysApart.2.1 41 = .ok (.ifCond .eq 7, 3) := by decide +kernel
theorem dX12_laysApart_44 : decode YX12_laysApart.2.1 44 = .ok (.iconst 1, 1) := by decide +kernel
theorem dX12_laysApart_45 : decode YX12_laysApart.2.1 45 = .ok (.goto 6, 3) := by decide +kernel
theorem dX12_laysApart_48 : decode YX12_laysApart.2.1 48 = .ok (.ldc_w 262, 3) := by decide +kernel
theorem dX12_laysApart_51 : decode YX12_laysApart.2.1 51 = .ok (.iastore, 1) := by decide +kernel
theorem dX12_laysApart_52 : decode YX12_laysApart.2.1 52 = .ok (.iinc 2 1, 3) := by decide +kernel
theorem dX12_laysApart_55 : decode YX12_laysApart.2.1 55 = .ok (.goto (-45), 3) := by decide +kernel
theorem dX12_laysApart_58 : decode YX12_laysApart.2.1 58 = .ok (.iinc 1 1, 3) := by decide +kernel
theorem dX12_laysApart_61 : decode YX12_laysApart.2.1 61 = .ok (.goto (-59), 3) := by decide +kernel
theorem dX12_laysApart_64 : decode YX12_laysApart.2.1 64 = .ok (.iconst 0, 1) := by decide +kernel
theorem dX12_laysApart_65 : decode YX12_laysApart.2.1 65 = .ok (.istore_n 1, 1) := by decide +kernel
theorem dX12_laysApart_66 : decode YX12_laysApart.2.1 66 = .ok (.iload_n 1, 1) := by decide +kernel
theorem dX12_laysApart_67 : decode YX12_laysApart.2.1 67 = .ok (.bipush 8, 2) := by decide +kernel
theorem dX12_laysApart_69 : decode YX12_laysApart.2.1 69 = .ok (.if_icmp .ge 85, 3) := by decide +kernel
theorem dX12_laysApart_72 : decode YX12_laysApart.2.1 72 = .ok (.iconst 0, 1) := by decide +kernel
theorem dX12_laysApart_73 : decode YX12_laysApart.2.1 73 = .ok (.istore_n 2, 1) := by decide +kernel
theorem dX12_laysApart_74 : decode YX12_laysApart.2.1 74 = .ok (.iload_n 2, 1) := by decide +kernel
theorem dX12_laysApart_75 : decode YX12_laysApart.2.1 75 = .ok (.bipush 8, 2) := by decide +kernel
theorem dX12_laysApart_77 : decode YX12_laysApart.2.1 77 = .ok (.if_icmp .ge 71, 3) := by decide +kernel
theorem dX12_laysApart_80 : decode YX12_laysApart.2.1 80 = .ok (.iconst 0, 1) := by decide +kernel
theorem dX12_laysApart_81 : decode YX12_laysApart.2.1 81 = .ok (.istore_n 3, 1) := by decide +kernel
theorem dX12_laysApart_82 : decode YX12_laysApart.2.1 82 = .ok (.iload_n 3, 1) := by decide +kernel
theorem dX12_laysApart_83 : decode YX12_laysApart.2.1 83 = .ok (.bipush 8, 2) := by decide +kernel
theorem dX12_laysApart_85 : decode YX12_laysApart.2.1 85 = .ok (.if_icmp .ge 57, 3) := by decide +kernel
theorem dX12_laysApart_88 : decode YX12_laysApart.2.1 88 = .ok (.aload_n 0, 1) := by decide +kernel
theorem dX12_laysApart_89 : decode YX12_laysApart.2.1 89 = .ok (.getfield 50, 3) := by decide +kernel
theorem dX12_laysApart_92 : decode YX12_laysApart.2.1 92 = .ok (.bipush 8, 2) := by decide +kernel
theorem dX12_laysApart_94 : decode YX12_laysApart.2.1 94 = .ok (.iload_n 2, 1) := by decide +kernel
theorem dX12_laysApart_95 : decode YX12_laysApart.2.1 95 = .ok (.imul, 1) := by decide +kernel
theorem dX12_laysApart_96 : decode YX12_laysApart.2.1 96 = .ok (.iload_n 3, 1) := by decide +kernel
theorem dX12_laysApart_97 : decode YX12_laysApart.2.1 97 = .ok (.iadd, 1) := by decide +kernel
theorem dX12_laysApart_98 : decode YX12_laysApart.2.1 98 = .ok (.aload_n 0, 1) := by decide +kernel
theorem dX12_laysApart_99 : decode YX12_laysApart.2.1 99 = .ok (.getfield 50, 3) := by decide +kernel
theorem dX12_laysApart_102 : decode YX12_laysApart.2.1 102 = .ok (.bipush 8, 2) := by decide +kernel
theorem dX12_laysApart_104 : decode YX12_laysApart.2.1 104 = .ok (.iload_n 2, 1) := by decide +kernel
theorem dX12_laysApart_105 : decode YX12_laysApart.2.1 105 = .ok (.imul, 1) := by decide +kernel
theorem dX12_laysApart_106 : decode YX12_laysApart.2.1 106 = .ok (.iload_n 3, 1) := by decide +kernel
theorem dX12_laysApart_107 : decode YX12_laysApart.2.1 107 = .ok (.iadd, 1) := by decide +kernel
theorem dX12_laysApart_108 : decode YX12_laysApart.2.1 108 = .ok (.iaload, 1) := by decide +kernel
theorem dX12_laysApart_109 : decode YX12_laysApart.2.1 109 = .ok (.aload_n 0, 1) := by decide +kernel
theorem dX12_laysApart_110 : decode YX12_laysApart.2.1 110 = .ok (.getfield 50, 3) := by decide +kernel
theorem dX12_laysApart_113 : decode YX12_laysApart.2.1 113 = .ok (.bipush 8, 2) := by decide +kernel
theorem dX12_laysApart_115 : decode YX12_laysApart.2.1 115 = .ok (.iload_n 2, 1) := by decide +kernel
theorem dX12_laysApart_116 : decode YX12_laysApart.2.1 116 = .ok (.imul, 1) := by decide +kernel
theorem dX12_laysApart_117 : decode YX12_laysApart.2.1 117 = .ok (.iload_n 1, 1) := by decide +kernel
theorem dX12_laysApart_118 : decode YX12_laysApart.2.1 118 = .ok (.iadd, 1) := by decide +kernel
theorem dX12_laysApart_119 : decode YX12_laysApart.2.1 119 = .ok (.iaload, 1) := by decide +kernel
theorem dX12_laysApart_120 : decode YX12_laysApart.2.1 120 = .ok (.aload_n 0, 1) := by decide +kernel
theorem dX12_laysApart_121 : decode YX12_laysApart.2.1 121 = .ok (.getfield 50, 3) := by decide +kernel
theorem dX12_laysApart_124 : decode YX12_laysApart.2.1 124 = .ok (.bipush 8, 2) := by decide +kernel
theorem dX12_laysApart_126 : decode YX12_laysApart.2.1 126 = .ok (.iload_n 1, 1) := by decide +kernel
theorem dX12_laysApart_127 : decode YX12_laysApart.2.1 127 = .ok (.imul, 1) := by decide +kernel
theorem dX12_laysApart_128 : decode YX12_laysApart.2.1 128 = .ok (.iload_n 3, 1) := by decide +kernel
theorem dX12_laysApart_129 : decode YX12_laysApart.2.1 129 = .ok (.iadd, 1) := by decide +kernel
theorem dX12_laysApart_130 : decode YX12_laysApart.2.1 130 = .ok (.iaload, 1) := by decide +kernel
theorem dX12_laysApart_131 : decode YX12_laysApart.2.1 131 = .ok (.iadd, 1) := by decide +kernel
theorem dX12_laysApart_132 : decode YX12_laysApart.2.1 132 = .ok (.invokestatic 263, 3) := by decide +kernel
theorem dX12_laysApart_135 : decode YX12_laysApart.2.1 135 = .ok (.iastore, 1) := by decide +kernel
theorem dX12_laysApart_136 : decode YX12_laysApart.2.1 136 = .ok (.iinc 3 1, 3) := by decide +kernel
theorem dX12_laysApart_139 : decode YX12_laysApart.2.1 139 = .ok (.goto (-57), 3) := by decide +kernel
theorem dX12_laysApart_142 : decode YX12_laysApart.2.1 142 = .ok (.iinc 2 1, 3) := by decide +kernel
theorem dX12_laysApart_145 : decode YX12_laysApart.2.1 145 = .ok (.goto (-71), 3) := by decide +kernel
theorem dX12_laysApart_148 : decode YX12_laysApart.2.1 148 = .ok (.iinc 1 1, 3) := by decide +kernel
theorem dX12_laysApart_151 : decode YX12_laysApart.2.1 151 = .ok (.goto (-85), 3) := by decide +kernel
theorem dX12_laysApart_154 : decode YX12_laysApart.2.1 154 = .ok (.return_, 1) := by decide +kernel
theorem dX12_leafOf_0 : decode YX12_leafOf.2.1 0 = .ok (.aload_n 0, 1) := by decide +kernel
theorem dX12_leafOf_1 : decode YX12_leafOf.2.1 1 = .ok (.ldc2_w 125, 3) := by decide +kernel
theorem dX12_leafOf_4 : decode YX12_leafOf.2.1 4 = .ok (.invokevirtual 210, 3) := by decide +kernel
theorem dX12_leafOf_7 : decode YX12_leafOf.2.1 7 = .ok (.ifCond .eq 7, 3) := by decide +kernel
theorem dX12_leafOf_10 : decode YX12_leafOf.2.1 10 = .ok (.iconst 0, 1) := by decide +kernel
theorem dX12_leafOf_11 : decode YX12_leafOf.2.1 11 = .ok (.goto 119, 3) := by decide +kernel
theorem dX12_leafOf_14 : decode YX12_leafOf.2.1 14 = .ok (.aload_n 0, 1) := by decide +kernel
theorem dX12_leafOf_15 : decode YX12_leafOf.2.1 15 = .ok (.ldc2_w 127, 3) := by decide +kernel
theorem dX12_leafOf_18 : decode YX12_leafOf.2.1 18 = .ok (.invokevirtual 210, 3) := by decide +kernel
theorem dX12_leafOf_21 : decode YX12_leafOf.2.1 21 = .ok (.ifCond .eq 7, 3) := by decide +kernel
theorem dX12_leafOf_24 : decode YX12_leafOf.2.1 24 = .ok (.iconst 1, 1) := by decide +kernel
theorem dX12_leafOf_25 : decode YX12_leafOf.2.1 25 = .ok (.goto 105, 3) := by decide +kernel
theorem dX12_leafOf_28 : decode YX12_leafOf.2.1 28 = .ok (.aload_n 0, 1) := by decide +kernel
theorem dX12_leafOf_29 : decode YX12_leafOf.2.1 29 = .ok (.ldc2_w 129, 3) := by decide +kernel
theorem dX12_leafOf_32 : decode YX12_leafOf.2.1 32 = .ok (.invokevirtual 210, 3) := by decide +kernel
theorem dX12_leafOf_35 : decode YX12_leafOf.2.1 35 = .ok (.ifCond .eq 7, 3) := by decide +kernel
theorem dX12_leafOf_38 : decode YX12_leafOf.2.1 38 = .ok (.iconst 2, 1) := by decide +kernel
theorem dX12_leafOf_39 : decode YX12_leafOf.2.1 39 = .ok (.goto 91, 3) := by decide +kernel
theorem dX12_leafOf_42 : decode YX12_leafOf.2.1 42 = .ok (.aload_n 0, 1) := by decide +kernel
theorem dX12_leafOf_43 : decode YX12_leafOf.2.1 43 = .ok (.ldc2_w 131, 3) := by decide +kernel
theorem dX12_leafOf_46 : decode YX12_leafOf.2.1 46 = .ok (.invokevirtual 210, 3) := by decide +kernel
theorem dX12_leafOf_49 : decode YX12_leafOf.2.1 49 = .ok (.ifCond .eq 7, 3) := by decide +kernel
theorem dX12_leafOf_52 : decode YX12_leafOf.2.1 52 = .ok (.iconst 3, 1) := by decide +kernel
theorem dX12_leafOf_53 : decode YX12_leafOf.2.1 53 = .ok (.goto 77, 3) := by decide +kernel
theorem dX12_leafOf_56 : decode YX12_leafOf.2.1 56 = .ok (.aload_n 0, 1) := by decide +kernel
theorem dX12_leafOf_57 : decode YX12_leafOf.2.1 57 = .ok (.ldc2_w 133, 3) := by decide +kernel
theorem dX12_leafOf_60 : decode YX12_leafOf.2.1 60 = .ok (.invokevirtual 210, 3) := by decide +kernel
theorem dX12_leafOf_63 : decode YX12_leafOf.2.1 63 = .ok (.ifCond .eq 7, 3) := by decide +kernel
theorem dX12_leafOf_66 : decode YX12_leafOf.2.1 66 = .ok (.iconst 4, 1) := by decide +kernel
theorem dX12_leafOf_67 : decode YX12_leafOf.2.1 67 = .ok (.goto 63, 3) := by decide +kernel
theorem dX12_leafOf_70 : decode YX12_leafOf.2.1 70 = .ok (.aload_n 0, 1) := by decide +kernel
theorem dX12_leafOf_71 : decode YX12_leafOf.2.1 71 = .ok (.ldc2_w 135, 3) := by decide +kernel
theorem dX12_leafOf_74 : decode YX12_leafOf.2.1 74 = .ok (.invokevirtual 210, 3) := by decide +kernel
theorem dX12_leafOf_77 : decode YX12_leafOf.2.1 77 = .ok (.ifCond .eq 7, 3) := by decide +kernel
theorem dX12_leafOf_80 : decode YX12_leafOf.2.1 80 = .ok (.iconst 5, 1) := by decide +kernel
theorem dX12_leafOf_81 : decode YX12_leafOf.2.1 81 = .ok (.goto 49, 3) := by decide +kernel
theorem dX12_leafOf_84 : decode YX12_leafOf.2.1 84 = .ok (.aload_n 0, 1) := by decide +kernel
theorem dX12_leafOf_85 : decode YX12_leafOf.2.1 85 = .ok (.ldc2_w 137, 3) := by decide +kernel
theorem dX12_leafOf_88 : decode YX12_leafOf.2.1 88 = .ok (.invokevirtual 210, 3) := by decide +kernel
theorem dX12_leafOf_91 : decode YX12_leafOf.2.1 91 = .ok (.ifCond .eq 8, 3) := by decide +kernel
theorem dX12_leafOf_94 : decode YX12_leafOf.2.1 94 = .ok (.bipush 6, 2) := by decide +kernel
theorem dX12_leafOf_96 : decode YX12_leafOf.2.1 96 = .ok (.goto 34, 3) := by decide +kernel
theorem dX12_leafOf_99 : decode YX12_leafOf.2.1 99 = .ok (.aload_n 0, 1) := by decide +kernel
theorem dX12_leafOf_100 : decode YX12_leafOf.2.1 100 = .ok (.ldc2_w 139, 3) := by decide +kernel
theorem dX12_leafOf_103 : decode YX12_leafOf.2.1 103 = .ok (.invokevirtual 210, 3) := by decide +kernel
theorem dX12_leafOf_106 : decode YX12_leafOf.2.1 106 = .ok (.ifCond .eq 8, 3) := by decide +kernel
theorem dX12_leafOf_109 : decode YX12_leafOf.2.1 109 = .ok (.bipush 7, 2) := by decide +kernel
theorem dX12_leafOf_111 : decode YX12_leafOf.2.1 111 = .ok (.goto 19, 3) := by decide +kernel
theorem dX12_leafOf_114 : decode YX12_leafOf.2.1 114 = .ok (.aload_n 0, 1) := by decide +kernel
theorem dX12_leafOf_115 : decode YX12_leafOf.2.1 115 = .ok (.ldc2_w 141, 3) := by decide +kernel
theorem dX12_leafOf_118 : decode YX12_leafOf.2.1 118 = .ok (.invokevirtual 210, 3) := by decide +kernel
theorem dX12_leafOf_121 : decode YX12_leafOf.2.1 121 = .ok (.ifCond .eq 8, 3) := by decide +kernel
theorem dX12_leafOf_124 : decode YX12_leafOf.2.1 124 = .ok (.bipush 8, 2) := by decide +kernel
theorem dX12_leafOf_126 : decode YX12_leafOf.2.1 126 = .ok (.goto 4, 3) := by decide +kernel
theorem dX12_leafOf_129 : decode YX12_leafOf.2.1 129 = .ok (.iconst (-1), 1) := by decide +kernel
theorem dX12_leafOf_130 : decode YX12_leafOf.2.1 130 = .ok (.ireturn, 1) := by decide +kernel
theorem dX12_leave_0 : decode YX12_leave.2.1 0 = .ok (.aload_n 0, 1) := by decide +kernel
theorem dX12_leave_1 : decode YX12_leave.2.1 1 = .ok (.iconst 0, 1) := by decide +kernel
theorem dX12_leave_2 : decode YX12_leave.2.1 2 = .ok (.putfield 1, 3) := by decide +kernel
theorem dX12_leave_5 : decode YX12_leave.2.1 5 = .ok (.aload_n 0, 1) := by decide +kernel
theorem dX12_leave_6 : decode YX12_leave.2.1 6 = .ok (.iload_n 1, 1) := by decide +kernel
theorem dX12_leave_7 : decode YX12_leave.2.1 7 = .ok (.invokevirtual 270, 3) := by decide +kernel
theorem dX12_leave_10 : decode YX12_leave.2.1 10 = .ok (.ifCond .ne 5, 3) := by decide +kernel
theorem dX12_leave_13 : decode YX12_leave.2.1 13 = .ok (.iconst (-1), 1) := by decide +kernel
theorem dX12_leave_14 : decode YX12_leave.2.1 14 = .ok (.ireturn, 1) := by decide +kernel
theorem dX12_leave_15 : decode YX12_leave.2.1 15 = .ok (.aload_n 0, 1) := by decide +kernel
theorem dX12_leave_16 : decode YX12_leave.2.1 16 = .ok (.getfield 33, 3) := by decide +kernel
theorem dX12_leave_19 : decode YX12_leave.2.1 19 = .ok (.sipush 133, 3) := by decide +kernel
theorem dX12_leave_22 : decode YX12_leave.2.1 22 = .ok (.iload_n 1, 1) := by decide +kernel
theorem dX12_leave_23 : decode YX12_leave.2.1 23 = .ok (.iadd, 1) := by decide +kernel
theorem dX12_leave_24 : decode YX12_leave.2.1 24 = .ok (.iaload, 1) := by decide +kernel
theorem dX12_leave_25 : decode YX12_leave.2.1 25 = .ok (.ifCond .ne 5, 3) := by decide +kernel
theorem dX12_leave_28 : decode YX12_leave.2.1 28 = .ok (.iconst 1, 1) := by decide +kernel
theorem dX12_leave_29 : decode YX12_leave.2.1 29 = .ok (.ireturn, 1) := by decide +kernel
theorem dX12_leave_30 : decode YX12_leave.2.1 30 = .ok (.aload_n 0, 1) := by decide +kernel
theorem dX12_leave_31 : decode YX12_leave.2.1 31 = .ok (.invokevirtual 304, 3) := by decide +kernel
theorem dX12_leave_34 : decode YX12_leave.2.1 34 = .ok (.aload_n 0, 1) := by decide +kernel
theorem dX12_leave_35 : decode YX12_leave.2.1 35 = .ok (.iload_n 1, 1) := by decide +kernel
theorem dX12_leave_36 : decode YX12_leave.2.1 36 = .ok (.invokevirtual 314, 3) := by decide +kernel
theorem dX12_leave_39 : decode YX12_leave.2.1 39 = .ok (.iconst 0, 1) := by decide +kernel
theorem dX12_leave_40 : decode YX12_leave.2.1 40 = .ok (.ireturn, 1) := by decide +kernel
theorem dX12_leftBy_0 : decode YX12_leftBy.2.1 0 = .ok (.iconst 0, 1) := by decide +kernel
theorem dX12_leftBy_1 : decode YX12_leftBy.2.1 1 = .ok (.istore_n 3, 1) := by decide +kernel
theorem dX12_leftBy_2 : decode YX12_leftBy.2.1 2 = .ok (.iconst 0, 1) := by decide +kernel
theorem dX12_leftBy_3 : decode YX12_leftBy.2.1 3 = .ok (.istore 4, 2) := by decide +kernel
theorem dX12_leftBy_5 : decode YX12_leftBy.2.1 5 = .ok (.iload 4, 2) := by decide +kernel
theorem dX12_leftBy_7 : decode YX12_leftBy.2.1 7 = .ok (.aload_n 0, 1) := by decide +kernel
theorem dX12_leftBy_8 : decode YX12_leftBy.2.1 8 = .ok (.getfield 33, 3) := by decide +kernel
theorem dX12_leftBy_11 : decode YX12_leftBy.2.1 11 = .ok (.iconst 0, 1) := by decide +kernel
theorem dX12_leftBy_12 : decode YX12_leftBy.2.1 12 = .ok (.iaload, 1) := by decide +kernel
theorem dX12_leftBy_13 : decode YX12_leftBy.2.1 13 = .ok (.if_icmp .ge 78, 3) := by decide +kernel
theorem dX12_leftBy_16 : decode YX12_leftBy.2.1 16 = .ok (.iconst 0, 1) := by decide +kernel
theorem dX12_leftBy_17 : decode YX12_leftBy.2.1 17 = .ok (.istore 5, 2) := by decide +kernel
theorem dX12_leftBy_19 : decode YX12_leftBy.2.1 19 = .ok (.iconst 0, 1) := by decide +kernel
theorem dX12_leftBy_20 : decode YX12_leftBy.2.1 20 = .ok (.istore 6, 2) := by decide +kernel
theorem dX12_leftBy_22 : decode YX12_leftBy.2.1 22 = .ok (.iload 6, 2) := by decide +kernel
theorem dX12_leftBy_24 : decode YX12_leftBy.2.1 24 = .ok (.aload_n 0, 1) := by decide +kernel
theorem dX12_leftBy_25 : decode YX12_leftBy.2.1 25 = .ok (.getfield 33, 3) := by decide +kernel
theorem dX12_leftBy_28 : decode YX12_leftBy.2.1 28 = .ok (.iconst 2, 1) := by decide +kernel
theorem dX12_leftBy_29 : decode YX12_leftBy.2.1 29 = .ok (.iaload, 1) := by decide +kernel
theorem dX12_leftBy_30 : decode YX12_leftBy.2.1 30 = .ok (.if_icmp .ge 48, 3) := by decide +kernel
theorem dX12_leftBy_33 : decode YX12_leftBy.2.1 33 = .ok (.iload 5, 2) := by decide +kernel
theorem dX12_leftBy_35 : decode YX12_leftBy.2.1 35 = .ok (.iload_n 1, 1) := by decide +kernel
theorem dX12_leftBy_36 : decode YX12_leftBy.2.1 36 = .ok (.iload 6, 2) := by decide +kernel
theorem dX12_leftBy_38 : decode YX12_leftBy.2.1 38 = .ok (.invokestatic 235, 3) := by decide +kernel
theorem dX12_leftBy_41 : decode YX12_leftBy.2.1 41 = .ok (.ifCond .eq 27, 3) := by decide +kernel
theorem dX12_leftBy_44 : decode YX12_leftBy.2.1 44 = .ok (.aload_n 0, 1) := by decide +kernel
theorem dX12_leftBy_45 : decode YX12_leftBy.2.1 45 = .ok (.getfield 33, 3) := by decide +kernel
theorem dX12_leftBy_48 : decode YX12_leftBy.2.1 48 = .ok (.bipush 91, 2) := by decide +kernel
theorem dX12_leftBy_50 : decode YX12_leftBy.2.1 50 = .ok (.bipush 6, 2) := by decide +kernel
theorem dX12_leftBy_52 : decode YX12_leftBy.2.1 52 = .ok (.iload_n 2, 1) := by decide +kernel
theorem dX12_leftBy_53 : decode YX12_leftBy.2.1 53 = .ok (.imul, 1) := by decide +kernel
theorem dX12_leftBy_54 : decode YX12_leftBy.2.1 54 = .ok (.iadd, 1) := by decide +kernel
theorem dX12_leftBy_55 : decode YX12_leftBy.2.1 55 = .ok (.iload 6, 2) := by decide +kernel
theorem dX12_leftBy_57 : decode YX12_leftBy.2.1 57 = .ok (.iadd, 1) := by decide +kernel
theorem dX12_leftBy_58 : decode YX12_leftBy.2.1 58 = .ok (.iaload, 1) := by decide +kernel
theorem dX12_leftBy_59 : decode YX12_leftBy.2.1 59 = .ok (.iload 4, 2) := by decide +kernel
theorem dX12_leftBy_61 : decode YX12_leftBy.2.1 61 = .ok (.if_icmp .ne 7, 3) := by decide +kernel
theorem dX12_leftBy_64 : decode YX12_leftBy.2.1 64 = .ok (.iconst 1, 1) := by decide +kernel
theorem dX12_leftBy_65 : decode YX12_leftBy.2.1 65 = .ok (.goto 4, 3) := by decide +kernel
theorem dX12_leftBy_68 : decode YX12_leftBy.2.1 68 = .ok (.iconst 0, 1) := by decide +kernel
theorem dX12_leftBy_69 : decode YX12_leftBy.2.1 69 = .ok (.iadd, 1) := by decide +kernel
theorem dX12_leftBy_70 : decode YX12_leftBy.2.1 70 = .ok (.istore 5, 2) := by decide +kernel
theorem dX12_leftBy_72 : decode YX12_leftBy.2.1 72 = .ok (.iinc 6 1, 3) := by decide +kernel
theorem dX12_leftBy_75 : decode YX12_leftBy.2.1 75 = .ok (.goto (-53), 3) := by decide +kernel
theorem dX12_leftBy_78 : decode YX12_leftBy.2.1 78 = .ok (.iload_n 3, 1) := by decide +kernel
theorem dX12_leftBy_79 : decode YX12_leftBy.2.1 79 = .ok (.iload 5, 2) := by decide +kernel
theorem dX12_leftBy_81 : decode YX12_leftBy.2.1 81 = .ok (.invokestatic 349, 3) := by decide +kernel
theorem dX12_leftBy_84 : decode YX12_leftBy.2.1 84 = .ok (.istore_n 3, 1) := by decide +kernel
theorem dX12_leftBy_85 : decode YX12_leftBy.2.1 85 = .ok (.iinc 4 1, 3) := by decide +kernel
theorem dX12_leftBy_88 : decode YX12_leftBy.2.1 88 = .ok (.goto (-83), 3) := by decide +kernel
theorem dX12_leftBy_91 : decode YX12_leftBy.2.1 91 = .ok (.iload_n 3, 1) := by decide +kernel
theorem dX12_leftBy_92 : decode YX12_leftBy.2.1 92 = .ok (.ireturn, 1) := by decide +kernel
theorem dX12_lesser_0 : decode YX12_lesser.2.1 0 = .ok (.iload_n 0, 1) := by decide +kernel
theorem dX12_lesser_1 : decode YX12_lesser.2.1 1 = .ok (.iload_n 1, 1) := by decide +kernel
theorem dX12_lesser_2 : decode YX12_lesser.2.1 2 = .ok (.if_icmp .ge 7, 3) := by decide +kernel
theorem dX12_lesser_5 : decode YX12_lesser.2.1 5 = .ok (.iload_n 0, 1) := by decide +kernel
theorem dX12_lesser_6 : decode YX12_lesser.2.1 6 = .ok (.goto 4, 3) := by decide +kernel
theorem dX12_lesser_9 : decode YX12_lesser.2.1 9 = .ok (.iload_n 1, 1) := by decide +kernel
theorem dX12_lesser_10 : decode YX12_lesser.2.1 10 = .ok (.ireturn, 1) := by decide +kernel
theorem dX12_lets_0 : decode YX12_lets.2.1 0 = .ok (.aload_n 0, 1) := by decide +kernel
theorem dX12_lets_1 : decode YX12_lets.2.1 1 = .ok (.getfield 33, 3) := by decide +kernel
theorem dX12_lets_4 : decode YX12_lets.2.1 4 = .ok (.bipush 127, 2) := by decide +kernel
theorem dX12_lets_6 : decode YX12_lets.2.1 6 = .ok (.iload_n 1, 1) := by decide +kernel
theorem dX12_lets_7 : decode YX12_lets.2.1 7 = .ok (.iadd, 1) := by decide +kernel
theorem dX12_lets_8 : decode YX12_lets.2.1 8 = .ok (.dup2, 1) := by decide +kernel
theorem dX12_lets_9 : decode YX12_lets.2.1 9 = .ok (.iaload, 1) := by decide +kernel
theorem dX12_lets_10 : decode YX12_lets.2.1 10 = .ok (.iconst 1, 1) := by decide +kernel
theorem dX12_lets_11 : decode YX12_lets.2.1 11 = .ok (.isub, 1) := by decide +kernel
theorem dX12_lets_12 : decode YX12_lets.2.1 12 = .ok (.iastore, 1) := by decide +kernel
theorem dX12_lets_13 : decode YX12_lets.2.1 13 = .ok (.aload_n 0, 1) := by decide +kernel
theorem dX12_lets_14 : decode YX12_lets.2.1 14 = .ok (.getfield 33, 3) := by decide +kernel
theorem dX12_lets_17 : decode YX12_lets.2.1 17 = .ok (.sipush 199, 3) := by decide +kernel
theorem dX12_lets_20 : decode YX12_lets.2.1 20 = .ok (.aload_n 0, 1) := by decide +kernel
theorem dX12_lets_21 : decode YX12_lets.2.1 21 = .ok (.getfield 33, 3) := by decide +kernel
theorem dX12_lets_24 : decode YX12_lets.2.1 24 = .ok (.bipush 91, 2) := by decide +kernel
theorem dX12_lets_26 : decode YX12_lets.2.1 26 = .ok (.iload_n 1, 1) := by decide +kernel
theorem dX12_lets_27 : decode YX12_lets.2.1 27 = .ok (.iadd, 1) := by decide +kernel
theorem dX12_lets_28 : decode YX12_lets.2.1 28 = .ok (.iaload, 1) := by decide +kernel
theorem dX12_lets_29 : decode YX12_lets.2.1 29 = .ok (.iadd, 1) := by decide +kernel
theorem dX12_lets_30 : decode YX12_lets.2.1 30 = .ok (.dup2, 1) := by decide +kernel
theorem dX12_lets_31 : decode YX12_lets.2.1 31 = .ok (.iaload, 1) := by decide +kernel
theorem dX12_lets_32 : decode YX12_lets.2.1 32 = .ok (.iconst 1, 1) := by decide +kernel
theorem dX12_lets_33 : decode YX12_lets.2.1 33 = .ok (.iadd, 1) := by decide +kernel
theorem dX12_lets_34 : decode YX12_lets.2.1 34 = .ok (.iastore, 1) := by decide +kernel
theorem dX12_lets_35 : decode YX12_lets.2.1 35 = .ok (.return_, 1) := by decide +kernel
theorem dX12_line_0 : decode YX12_line.2.1 0 = .ok (.aload_n 0, 1) := by decide +kernel
theorem dX12_line_1 : decode YX12_line.2.1 1 = .ok (.iconst 0, 1) := by decide +kernel
theorem dX12_line_2 : decode YX12_line.2.1 2 = .ok (.putfield 1, 3) := by decide +kernel
theorem dX12_line_5 : decode YX12_line.2.1 5 = .ok (.aload_n 0, 1) := by decide +kernel
theorem dX12_line_6 : decode YX12_line.2.1 6 = .ok (.iload_n 1, 1) := by decide +kernel
theorem dX12_line_7 : decode YX12_line.2.1 7 = .ok (.invokevirtual 270, 3) := by decide +kernel
theorem dX12_line_10 : decode YX12_line.2.1 10 = .ok (.ifCond .ne 5, 3) := by decide +kernel
theorem dX12_line_13 : decode YX12_line.2.1 13 = .ok (.iconst (-1), 1) := by decide +kernel
theorem dX12_line_14 : decode YX12_line.2.1 14 = .ok (.ireturn, 1) := by decide +kernel
theorem dX12_line_15 : decode YX12_line.2.1 15 = .ok (.aload_n 0, 1) := by decide +kernel
theorem dX12_line_16 : decode YX12_line.2.1 16 = .ok (.iconst 0, 1) := by decide +kernel
theorem dX12_line_17 : decode YX12_line.2.1 17 = .ok (.putfield 386, 3) := by decide +kernel
theorem dX12_line_20 : decode YX12_line.2.1 20 = .ok (.aload_n 0, 1) := by decide +kernel
theorem dX12_line_21 : decode YX12_line.2.1 21 = .ok (.aload_n 0, 1) := by decide +kernel
theorem dX12_line_22 : decode YX12_line.2.1 22 = .ok (.getfield 43, 3) := by decide +kernel
theorem dX12_line_25 : decode YX12_line.2.1 25 = .ok (.bipush 8, 2) := by decide +kernel
theorem dX12_line_27 : decode YX12_line.2.1 27 = .ok (.iload_n 1, 1) := by decide +kernel
theorem dX12_line_28 : decode YX12_line.2.1 28 = .ok (.iadd, 1) := by decide +kernel
theorem dX12_line_29 : decode YX12_line.2.1 29 = .ok (.laload, 1) := by decide +kernel
theorem dX12_line_30 : decode YX12_line.2.1 30 = .ok (.invokevirtual 394, 3) := by decide +kernel
theorem dX12_line_33 : decode YX12_line.2.1 33 = .ok (.aload_n 0, 1) := by decide +kernel
theorem dX12_line_34 : decode YX12_line.2.1 34 = .ok (.ldc2_w 131, 3) := by decide +kernel
theorem dX12_line_37 : decode YX12_line.2.1 37 = .ok (.invokevirtual 398, 3) := by decide +kernel
theorem dX12_line_40 : decode YX12_line.2.1 40 = .ok (.aload_n 0, 1) := by decide +kernel
theorem dX12_line_41 : decode YX12_line.2.1 41 = .ok (.aload_n 0, 1) := by decide +kernel
theorem dX12_line_42 : decode YX12_line.2.1 42 = .ok (.getfield 43, 3) := by decide +kernel
theorem dX12_line_45 : decode YX12_line.2.1 45 = .ok (.aload_n 0, 1) := by decide +kernel
theorem dX12_line_46 : decode YX12_line.2.1 46 = .ok (.getfield 33, 3) := by decide +kernel
theorem dX12_line_49 : decode YX12_line.2.1 49 = .ok (.bipush 91, 2) := by decide +kernel
theorem dX12_line_51 : decode YX12_line.2.1 51 = .ok (.iload_n 1, 1) := by decide +kernel
theorem dX12_line_52 : decode YX12_line.2.1 52 = .ok (.iadd, 1) := by decide +kernel
theorem dX12_line_53 : decode YX12_line.2.1 53 = .ok (.iaload, 1) := by decide +kernel
theorem dX12_line_54 : decode YX12_line.2.1 54 = .ok (.laload, 1) := by decide +kernel
theorem dX12_line_55 : decode YX12_line.2.1 55 = .ok (.invokevirtual 398, 3) := by decide +kernel
theorem dX12_line_58 : decode YX12_line.2.1 58 = .ok (.aload_n 0, 1) := by decide +kernel
theorem dX12_line_59 : decode YX12_line.2.1 59 = .ok (.getfield 33, 3) := by decide +kernel
theorem dX12_line_62 : decode YX12_line.2.1 62 = .ok (.sipush 133, 3) := by decide +kernel
theorem dX12_line_65 : decode YX12_line.2.1 65 = .ok (.iload_n 1, 1) := by decide +kernel
theorem dX12_line_66 : decode YX12_line.2.1 66 = .ok (.iadd, 1) := by decide +kernel
theorem dX12_line_67 : decode YX12_line.2.1 67 = .ok (.iaload, 1) := by decide +kernel
theorem dX12_line_68 : decode YX12_line.2.1 68 = .ok (.ifCond .le 30, 3) := by decide +kernel
theorem dX12_line_71 : decode YX12_line.2.1 71 = .ok (.aload_n 0, 1) := by decide +kernel
theorem dX12_line_72 : decode YX12_line.2.1 72 = .ok (.ldc2_w 133, 3) := by decide +kernel
theorem dX12_line_75 : decode YX12_line.2.1 75 = .ok (.invokevirtual 398, 3) := by decide +kernel
theorem dX12_line_78 : decode YX12_line.2.1 78 = .ok (.aload_n 0, 1) := by decide +kernel
theorem dX12_line_79 : decode YX12_line.2.1 79 = .ok (.aload_n 0, 1) := by decide +kernel
theorem dX12_line_80 : decode YX12_line.2.1 80 = .ok (.getfield 43, 3) := by decide +kernel
theorem dX12_line_83 : decode YX12_line.2.1 83 = .ok (.bipush 8, 2) := by decide +kernel
theorem dX12_line_85 : decode YX12_line.2.1 85 = .ok (.aload_n 0, 1) := by decide +kernel
theorem dX12_line_86 : decode YX12_line.2.1 86 = .ok (.iload_n 1, 1) := by decide +kernel
theorem dX12_line_87 : decode YX12_line.2.1 87 = .ok (.invokevirtual 266, 3) := by decide +kernel
theorem dX12_line_90 : decode YX12_line.2.1 90 = .ok (.iadd, 1) := by decide +kernel
theorem dX12_line_91 : decode YX12_line.2.1 91 = .ok (.laload, 1) := by decide +kernel
theorem dX12_line_92 : decode YX12_line.2.1 92 = .ok (.invokevirtual 398, 3) := by decide +kernel
theorem dX12_line_95 : decode YX12_line.2.1 95 = .ok (.goto 56, 3) := by decide +kernel
theorem dX12_line_98 : decode YX12_line.2.1 98 = .ok (.aload_n 0, 1) := by decide +kernel
theorem dX12_line_99 : decode YX12_line.2.1 99 = .ok (.getfield 33, 3) := by decide +kernel
theorem dX12_line_102 : decode YX12_line.2.1 102 = .ok (.sipush 145, 3) := by decide +kernel
theorem dX12_line_105 : decode YX12_line.2.1 105 = .ok (.iload_n 1, 1) := by decide +kernel
theorem dX12_line_106 : decode YX12_line.2.1 106 = .ok (.iadd, 1) := by decide +kernel
theorem dX12_line_107 : decode YX12_line.2.1 107 = .ok (.iaload, 1) := by decide +kernel
theorem dX12_line_108 : decode YX12_line.2.1 108 = .ok (.ifCond .le 36, 3) := by decide +kernel
theorem dX12_line_111 : decode YX12_line.2.1 111 = .ok (.aload_n 0, 1) := by decide +kernel
theorem dX12_line_112 : decode YX12_line.2.1 112 = .ok (.ldc2_w 109, 3) := by decide +kernel
theorem dX12_line_115 : decode YX12_line.2.1 115 = .ok (.invokevirtual 398, 3) := by decide +kernel
theorem dX12_line_118 : decode YX12_line.2.1 118 = .ok (.aload_n 0, 1) := by decide +kernel
theorem dX12_line_119 : decode YX12_line.2.1 119 = .ok (.bipush 32, 2) := by decide +kernel
theorem dX12_line_121 : decode YX12_line.2.1 121 = .ok (.invokevirtual 391, 3) := by decide +kernel
theorem dX12_line_124 : decode YX12_line.2.1 124 = .ok (.aload_n 0, 1) := by decide +kernel
theorem dX12_line_125 : decode YX12_line.2.1 125 = .ok (.bipush 48, 2) := by decide +kernel
theorem dX12_line_127 : decode YX12_line.2.1 127 = .ok (.aload_n 0, 1) := by decide +kernel
theorem dX12_line_128 : decode YX12_line.2.1 128 = .ok (.getfield 33, 3) := by decide +kernel
theorem dX12_line_131 : decode YX12_line.2.1 131 = .ok (.sipush 145, 3) := by decide +kernel
theorem dX12_line_134 : decode YX12_line.2.1 134 = .ok (.iload_n 1, 1) := by decide +kernel
theorem dX12_line_135 : decode YX12_line.2.1 135 = .ok (.iadd, 1) := by decide +kernel
theorem dX12_line_136 : decode YX12_line.2.1 136 = .ok (.iaload, 1) := by decide +kernel
theorem dX12_line_137 : decode YX12_line.2.1 137 = .ok (.iadd, 1) := by decide +kernel
theorem dX12_line_138 : decode YX12_line.2.1 138 = .ok (.invokevirtual 391, 3) := by decide +kernel
theorem dX12_line_141 : decode YX12_line.2.1 141 = .ok (.goto 10, 3) := by decide +kernel
theorem dX12_line_144 : decode YX12_line.2.1 144 = .ok (.aload_n 0, 1) := by decide +kernel
theorem dX12_line_145 : decode YX12_line.2.1 145 = .ok (.ldc2_w 401, 3) := by decide +kernel
theorem dX12_line_148 : decode YX12_line.2.1 148 = .ok (.invokevirtual 398, 3) := by decide +kernel
theorem dX12_line_151 : decode YX12_line.2.1 151 = .ok (.aload_n 0, 1) := by decide +kernel
theorem dX12_line_152 : decode YX12_line.2.1 152 = .ok (.getfield 386, 3) := by decide +kernel
theorem dX12_line_155 : decode YX12_line.2.1 155 = .ok (.ireturn, 1) := by decide +kernel
theorem dX12_looksAt_0 : decode YX12_looksAt.2.1 0 = .ok (.aload_n 0, 1) := by decide +kernel
theorem dX12_looksAt_1 : decode YX12_looksAt.2.1 1 = .ok (.invokevirtual 199, 3) := by decide +kernel
theorem dX12_looksAt_4 : decode YX12_looksAt.2.1 4 = .ok (.ifCond .ne 9, 3) := by decide +kernel
theorem dX12_looksAt_7 : decode YX12_looksAt.2.1 7 = .ok (.aload_n 0, 1) := by decide +kernel
theorem dX12_looksAt_8 : decode YX12_looksAt.2.1 8 = .ok (.iconst 1, 1) := by decide +kernel
theorem dX12_looksAt_9 : decode YX12_looksAt.2.1 9 = .ok (.invokevirtual 182, 3) := by decide +kernel
theorem dX12_looksAt_12 : decode YX12_looksAt.2.1 12 = .ok (.ireturn, 1) := by decide +kernel
theorem dX12_looksAt_13 : decode YX12_looksAt.2.1 13 = .ok (.aload_n 0, 1) := by decide +kernel
theorem dX12_looksAt_14 : decode YX12_looksAt.2.1 14 = .ok (.aload_n 0, 1) := by decide +kernel
theorem dX12_looksAt_15 : decode YX12_looksAt.2.1 15 = .ok (.iload_n 1, 1) := by decide +kernel
theorem dX12_looksAt_16 : decode YX12_looksAt.2.1 16 = .ok (.iload_n 2, 1) := by decide +kernel
theorem dX12_looksAt_17 : decode YX12_looksAt.2.1 17 = .ok (.invokevirtual 203, 3) := by decide +kernel
theorem dX12_looksAt_20 : decode YX12_looksAt.2.1 20 = .ok (.putfield 192, 3) := by decide +kernel
theorem dX12_looksAt_23 : decode YX12_looksAt.2.1 23 = .ok (.aload_n 0, 1) := by decide +kernel
theorem dX12_looksAt_24 : decode YX12_looksAt.2.1 24 = .ok (.getfield 192, 3) := by decide +kernel
theorem dX12_looksAt_27 : decode YX12_looksAt.2.1 27 = .ok (.ifCond .ge 11, 3) := by decide +kernel
theorem dX12_looksAt_30 : decode YX12_looksAt.2.1 30 = .ok (.aload_n 0, 1) := by decide +kernel
theorem dX12_looksAt_31 : decode YX12_looksAt.2.1 31 = .ok (.iconst 3, 1) := by decide +kernel
theorem dX12_looksAt_32 : decode YX12_looksAt.2.1 32 = .ok (.invokevirtual 182, 3) := by decide +kernel
theorem dX12_looksAt_35 : decode YX12_looksAt.2.1 35 = .ok (.ifCond .eq 7, 3) := by decide +kernel
theorem dX12_looksAt_38 : decode YX12_looksAt.2.1 38 = .ok (.iconst 1, 1) := by decide +kernel
theorem dX12_looksAt_39 : decode YX12_looksAt.2.1 39 = .ok (.goto 4, 3) := by decide +kernel
theorem dX12_looksAt_42 : decode YX12_looksAt.2.1 42 = .ok (.iconst 0, 1) := by decide +kernel
theorem dX12_looksAt_43 : decode YX12_looksAt.2.1 43 = .ok (.ireturn, 1) := by decide +kernel
theorem dX12_mean_0 : decode YX12_mean.2.1 0 = .ok (.aload_n 0, 1) := by decide +kernel
theorem dX12_mean_1 : decode YX12_mean.2.1 1 = .ok (.aload_n 0, 1) := by decide +kernel
theorem dX12_mean_2 : decode YX12_mean.2.1 2 = .ok (.getfield 33, 3) := by decide +kernel
theorem dX12_mean_5 : decode YX12_mean.2.1 5 = .ok (.iconst 2, 1) := by decide +kernel
theorem dX12_mean_6 : decode YX12_mean.2.1 6 = .ok (.iaload, 1) := by decide +kernel
theorem dX12_mean_7 : decode YX12_mean.2.1 7 = .ok (.ifCond .eq 12, 3) := by decide +kernel
theorem dX12_mean_10 : decode YX12_mean.2.1 10 = .ok (.iload_n 1, 1) := by decide +kernel
theorem dX12_mean_11 : decode YX12_mean.2.1 11 = .ok (.iconst 0, 1) := by decide +kernel
theorem dX12_mean_12 : decode YX12_mean.2.1 12 = .ok (.iconst 1, 1) := by decide +kernel
theorem dX12_mean_13 : decode YX12_mean.2.1 13 = .ok (.invokestatic 188, 3) := by decide +kernel
theorem dX12_mean_16 : decode YX12_mean.2.1 16 = .ok (.ifCond .ne 7, 3) := by decide +kernel
theorem dX12_mean_19 : decode YX12_mean.2.1 19 = .ok (.iconst 1, 1) := by decide +kernel
theorem dX12_mean_20 : decode YX12_mean.2.1 20 = .ok (.goto 4, 3) := by decide +kernel
theorem dX12_mean_23 : decode YX12_mean.2.1 23 = .ok (.iconst 0, 1) := by decide +kernel
theorem dX12_mean_24 : decode YX12_mean.2.1 24 = .ok (.invokevirtual 273, 3) := by decide +kernel
theorem dX12_mean_27 : decode YX12_mean.2.1 27 = .ok (.ifCond .eq 5, 3) := by decide +kernel
theorem dX12_mean_30 : decode YX12_mean.2.1 30 = .ok (.iconst 0, 1) := by decide +kernel
theorem dX12_mean_31 : decode YX12_mean.2.1 31 = .ok (.ireturn, 1) := by decide +kernel
theorem dX12_mean_32 : decode YX12_mean.2.1 32 = .ok (.aload_n 0, 1) := by decide +kernel
theorem dX12_mean_33 : decode YX12_mean.2.1 33 = .ok (.getfield 33, 3) := by decide +kernel
theorem dX12_mean_36 : decode YX12_mean.2.1 36 = .ok (.iconst 2, 1) := by decide +kernel
theorem dX12_mean_37 : decode YX12_mean.2.1 37 = .ok (.iaload, 1) := by decide +kernel
theorem dX12_mean_38 : decode YX12_mean.2.1 38 = .ok (.istore_n 2, 1) := by decide +kernel
theorem dX12_mean_39 : decode YX12_mean.2.1 39 = .ok (.aload_n 0, 1) := by decide +kernel
theorem dX12_mean_40 : decode YX12_mean.2.1 40 = .ok (.invokevirtual 289, 3) := by decide +kernel
theorem dX12_mean_43 : decode YX12_mean.2.1 43 = .ok (.istore_n 3, 1) := by decide +kernel
theorem dX12_mean_44 : decode YX12_mean.2.1 44 = .ok (.iload_n 3, 1) := by decide +kernel
theorem dX12_mean_45 : decode YX12_mean.2.1 45 = .ok (.ifCond .eq 16, 3) := by decide +kernel
theorem dX12_mean_48 : decode YX12_mean.2.1 48 = .ok (.iload_n 2, 1) := by decide +kernel
theorem dX12_mean_49 : decode YX12_mean.2.1 49 = .ok (.iload_n 3, 1) := by decide +kernel
theorem dX12_mean_50 : decode YX12_mean.2.1 50 = .ok (.irem, 1) := by decide +kernel
theorem dX12_mean_51 : decode YX12_mean.2.1 51 = .ok (.istore 4, 2) := by decide +kernel
theorem dX12_mean_53 : decode YX12_mean.2.1 53 = .ok (.iload_n 3, 1) := by decide +kernel
theorem dX12_mean_54 : decode YX12_mean.2.1 54 = .ok (.istore_n 2, 1) := by decide +kernel
theorem dX12_mean_55 : decode YX12_mean.2.1 55 = .ok (.iload 4, 2) := by decide +kernel
theorem dX12_mean_57 : decode YX12_mean.2.1 57 = .ok (.istore_n 3, 1) := by decide +kernel
theorem dX12_mean_58 : decode YX12_mean.2.1 58 = .ok (.goto (-14), 3) := by decide +kernel
theorem dX12_mean_61 : decode YX12_mean.2.1 61 = .ok (.iload_n 1, 1) := by decide +kernel
theorem dX12_mean_62 : decode YX12_mean.2.1 62 = .ok (.ifCond .ne 10, 3) := by decide +kernel
theorem dX12_mean_65 : decode YX12_mean.2.1 65 = .ok (.aload_n 0, 1) := by decide +kernel
theorem dX12_mean_66 : decode YX12_mean.2.1 66 = .ok (.invokevirtual 289, 3) := by decide +kernel
theorem dX12_mean_69 : decode YX12_mean.2.1 69 = .ok (.goto 9, 3) := by decide +kernel
theorem dX12_mean_72 : decode YX12_mean.2.1 72 = .ok (.aload_n 0, 1) := by decide +kernel
theorem dX12_mean_73 : decode YX12_mean.2.1 73 = .ok (.getfield 33, 3) := by decide +kernel
theorem dX12_mean_76 : decode YX12_mean.2.1 76 = .ok (.iconst 2, 1) := by decide +kernel
theorem dX12_mean_77 : decode YX12_mean.2.1 77 = .ok (.iaload, 1) := by decide +kernel
theorem dX12_mean_78 : decode YX12_mean.2.1 78 = .ok (.iload_n 2, 1) := by decide +kernel
theorem dX12_mean_79 : decode YX12_mean.2.1 79 = .ok (.idiv, 1) := by decide +kernel
theorem dX12_mean_80 : decode YX12_mean.2.1 80 = .ok (.ireturn, 1) := by decide +kernel
theorem dX12_meet_0 : decode YX12_meet.2.1 0 = .ok (.aload_n 0, 1) := by decide +kernel
theorem dX12_meet_1 : decode YX12_meet.2.1 1 = .ok (.iconst 0, 1) := by decide +kernel
theorem dX12_meet_2 : decode YX12_meet.2.1 2 = .ok (.putfield 1, 3) := by decide +kernel
theorem dX12_meet_5 : decode YX12_meet.2.1 5 = .ok (.aload_n 0, 1) := by decide +kernel
theorem dX12_meet_6 : decode YX12_meet.2.1 6 = .ok (.iload_n 1, 1) := by decide +kernel
theorem dX12_meet_7 : decode YX12_meet.2.1 7 = .ok (.invokevirtual 270, 3) := by decide +kernel
theorem dX12_meet_10 : decode YX12_meet.2.1 10 = .ok (.ifCond .eq 16, 3) := by decide +kernel
theorem dX12_meet_13 : decode YX12_meet.2.1 13 = .ok (.aload_n 0, 1) := by decide +kernel
theorem dX12_meet_14 : decode YX12_meet.2.1 14 = .ok (.iload_n 2, 1) := by decide +kernel
theorem dX12_meet_15 : decode YX12_meet.2.1 15 = .ok (.invokevirtual 270, 3) := by decide +kernel
theorem dX12_meet_18 : decode YX12_meet.2.1 18 = .ok (.ifCond .eq 8, 3) := by decide +kernel
theorem dX12_meet_21 : decode YX12_meet.2.1 21 = .ok (.iload_n 1, 1) := by decide +kernel
theorem dX12_meet_22 : decode YX12_meet.2.1 22 = .ok (.iload_n 2, 1) := by decide +kernel
theorem dX12_meet_23 : decode YX12_meet.2.1 23 = .ok (.if_icmp .ne 5, 3) := by decide +kernel
theorem dX12_meet_26 : decode YX12_meet.2.1 26 = .ok (.iconst (-1), 1) := by decide +kernel
theorem dX12_meet_27 : decode YX12_meet.2.1 27 = .ok (.ireturn, 1) := by decide +kernel
theorem dX12_meet_28 : decode YX12_meet.2.1 28 = .ok (.aload_n 0, 1) := by decide +kernel
theorem dX12_meet_29 : decode YX12_meet.2.1 29 = .ok (.invokevirtual 337, 3) := by decide +kernel
theorem dX12_meet_32 : decode YX12_meet.2.1 32 = .ok (.iconst (-1), 1) := by decide +kernel
theorem dX12_meet_33 : decode YX12_meet.2.1 33 = .ok (.istore_n 3, 1) := by decide +kernel
theorem dX12_meet_34 : decode YX12_meet.2.1 34 = .ok (.iconst 0, 1) := by decide +kernel
theorem dX12_meet_35 : decode YX12_meet.2.1 35 = .ok (.istore 4, 2) := by decide +kernel
theorem dX12_meet_37 : decode YX12_meet.2.1 37 = .ok (.iload 4, 2) := by decide +kernel
theorem dX12_meet_39 : decode YX12_meet.2.1 39 = .ok (.bipush 99, 2) := by decide +kernel
theorem dX12_meet_41 : decode YX12_meet.2.1 41 = .ok (.if_icmp .gt 41, 3) := by decide +kernel
theorem dX12_meet_44 : decode YX12_meet.2.1 44 = .ok (.iload_n 3, 1) := by decide +kernel
theorem dX12_meet_45 : decode YX12_meet.2.1 45 = .ok (.ifCond .ge 37, 3) := by decide +kernel
theorem dX12_meet_48 : decode YX12_meet.2.1 48 = .ok (.aload_n 0, 1) := by decide +kernel
theorem dX12_meet_49 : decode YX12_meet.2.1 49 = .ok (.getfield 33, 3) := by decide +kernel
theorem dX12_meet_52 : decode YX12_meet.2.1 52 = .ok (.bipush 91, 2) := by decide +kernel
theorem dX12_meet_54 : decode YX12_meet.2.1 54 = .ok (.iload_n 1, 1) := by decide +kernel
theorem dX12_meet_55 : decode YX12_meet.2.1 55 = .ok (.iadd, 1) := by decide +kernel
theorem dX12_meet_56 : decode YX12_meet.2.1 56 = .ok (.iaload, 1) := by decide +kernel
theorem dX12_meet_57 : decode YX12_meet.2.1 57 = .ok (.aload_n 0, 1) := by decide +kernel
theorem dX12_meet_58 : decode YX12_meet.2.1 58 = .ok (.getfield 33, 3) := by decide +kernel
theorem dX12_meet_61 : decode YX12_meet.2.1 61 = .ok (.bipush 91, 2) := by decide +kernel
theorem dX12_meet_63 : decode YX12_meet.2.1 63 = .ok (.iload_n 2, 1) := by decide +kernel
theorem dX12_meet_64 : decode YX12_meet.2.1 64 = .ok (.iadd, 1) := by decide +kernel
theorem dX12_meet_65 : decode YX12_meet.2.1 65 = .ok (.iaload, 1) := by decide +kernel
theorem dX12_meet_66 : decode YX12_meet.2.1 66 = .ok (.if_icmp .ne 6, 3) := by decide +kernel
theorem dX12_meet_69 : decode YX12_meet.2.1 69 = .ok (.iload 4, 2) := by decide +kernel
theorem dX12_meet_71 : decode YX12_meet.2.1 71 = .ok (.istore_n 3, 1) := by decide +kernel
theorem dX12_meet_72 : decode YX12_meet.2.1 72 = .ok (.aload_n 0, 1) := by decide +kernel
theorem dX12_meet_73 : decode YX12_meet.2.1 73 = .ok (.invokevirtual 298, 3) := by decide +kernel
theorem dX12_meet_76 : decode YX12_meet.2.1 76 = .ok (.iinc 4 1, 3) := by decide +kernel
theorem dX12_meet_79 : decode YX12_meet.2.1 79 = .ok (.goto (-42), 3) := by decide +kernel
theorem dX12_meet_82 : decode YX12_meet.2.1 82 = .ok (.aload_n 0, 1) := by decide +kernel
theorem dX12_meet_83 : decode YX12_meet.2.1 83 = .ok (.invokevirtual 340, 3) := by decide +kernel
theorem dX12_meet_86 : decode YX12_meet.2.1 86 = .ok (.iload_n 3, 1) := by decide +kernel
theorem dX12_meet_87 : decode YX12_meet.2.1 87 = .ok (.ireturn, 1) := by decide +kernel
theorem dX12_minute_0 : decode YX12_minute.2.1 0 = .ok (.iconst 0, 1) := by decide +kernel
theorem dX12_minute_1 : decode YX12_minute.2.1 1 = .ok (.istore_n 1, 1) := by decide +kernel
theorem dX12_minute_2 : decode YX12_minute.2.1 2 = .ok (.iload_n 1, 1) := by decide +kernel
theorem dX12_minute_3 : decode YX12_minute.2.1 3 = .ok (.aload_n 0, 1) := by decide +kernel
theorem dX12_minute_4 : decode YX12_minute.2.1 4 = .ok (.getfield 33, 3) := by decide +kernel
theorem dX12_minute_7 : decode YX12_minute.2.1 7 = .ok (.iconst 2, 1) := by decide +kernel
theorem dX12_minute_8 : decode YX12_minute.2.1 8 = .ok (.iaload, 1) := by decide +kernel
theorem dX12_minute_9 : decode YX12_minute.2.1 9 = .ok (.if_icmp .ge 20, 3) := by decide +kernel
theorem dX12_minute_12 : decode YX12_minute.2.1 12 = .ok (.aload_n 0, 1) := by decide +kernel
theorem dX12_minute_13 : decode YX12_minute.2.1 13 = .ok (.getfield 53, 3) := by decide +kernel
theorem dX12_minute_16 : decode YX12_minute.2.1 16 = .ok (.iload_n 1, 1) := by decide +kernel
theorem dX12_minute_17 : decode YX12_minute.2.1 17 = .ok (.aload_n 0, 1) := by decide +kernel
theorem dX12_minute_18 : decode YX12_minute.2.1 18 = .ok (.iload_n 1, 1) := by decide +kernel
theorem dX12_minute_19 : decode YX12_minute.2.1 19 = .ok (.invokevirtual 295, 3) := by decide +kernel
theorem dX12_minute_22 : decode YX12_minute.2.1 22 = .ok (.iastore, 1) := by decide +kernel
theorem dX12_minute_23 : decode YX12_minute.2.1 23 = .ok (.iinc 1 1, 3) := by decide +kernel
theorem dX12_minute_26 : decode YX12_minute.2.1 26 = .ok (.goto (-24), 3) := by decide +kernel
theorem dX12_minute_29 : decode YX12_minute.2.1 29 = .ok (.bipush 35, 2) := by decide +kernel
theorem dX12_minute_31 : decode YX12_minute.2.1 31 = .ok (.istore_n 1, 1) := by decide +kernel
theorem dX12_minute_32 : decode YX12_minute.2.1 32 = .ok (.iload_n 1, 1) := by decide +kernel
theorem dX12_minute_33 : decode YX12_minute.2.1 33 = .ok (.bipush 6, 2) := by decide +kernel
theorem dX12_minute_35 : decode YX12_minute.2.1 35 = .ok (.if_icmp .lt 30, 3) := by decide +kernel
theorem dX12_minute_38 : decode YX12_minute.2.1 38 = .ok (.aload_n 0, 1) := by decide +kernel
theorem dX12_minute_39 : decode YX12_minute.2.1 39 = .ok (.getfield 33, 3) := by decide +kernel
theorem dX12_minute_42 : decode YX12_minute.2.1 42 = .ok (.bipush 91, 2) := by decide +kernel
theorem dX12_minute_44 : decode YX12_minute.2.1 44 = .ok (.iload_n 1, 1) := by decide +kernel
theorem dX12_minute_45 : decode YX12_minute.2.1 45 = .ok (.iadd, 1) := by decide +kernel
theorem dX12_minute_46 : decode YX12_minute.2.1 46 = .ok (.aload_n 0, 1) := by decide +kernel
theorem dX12_minute_47 : decode YX12_minute.2.1 47 = .ok (.getfield 33, 3) := by decide +kernel
theorem dX12_minute_50 : decode YX12_minute.2.1 50 = .ok (.bipush 91, 2) := by decide +kernel
theorem dX12_minute_52 : decode YX12_minute.2.1 52 = .ok (.iload_n 1, 1) := by decide +kernel
theorem dX12_minute_53 : decode YX12_minute.2.1 53 = .ok (.iadd, 1) := by decide +kernel
theorem dX12_minute_54 : decode YX12_minute.2.1 54 = .ok (.bipush 6, 2) := by decide +kernel
theorem dX12_minute_56 : decode YX12_minute.2.1 56 = .ok (.isub, 1) := by decide +kernel
theorem dX12_minute_57 : decode YX12_minute.2.1 57 = .ok (.iaload, 1) := by decide +kernel
theorem dX12_minute_58 : decode YX12_minute.2.1 58 = .ok (.iastore, 1) := by decide +kernel
theorem dX12_minute_59 : decode YX12_minute.2.1 59 = .ok (.iinc 1 (-1), 3) := by decide +kernel
theorem dX12_minute_62 : decode YX12_minute.2.1 62 = .ok (.goto (-30), 3) := by decide +kernel
theorem dX12_minute_65 : decode YX12_minute.2.1 65 = .ok (.iconst 0, 1) := by decide +kernel
theorem dX12_minute_66 : decode YX12_minute.2.1 66 = .ok (.istore_n 1, 1) := by decide +kernel
theorem dX12_minute_67 : decode YX12_minute.2.1 67 = .ok (.iload_n 1, 1) := by decide +kernel
theorem dX12_minute_68 : decode YX12_minute.2.1 68 = .ok (.aload_n 0, 1) := by decide +kernel
theorem dX12_minute_69 : decode YX12_minute.2.1 69 = .ok (.getfield 33, 3) := by decide +kernel
theorem dX12_minute_72 : decode YX12_minute.2.1 72 = .ok (.iconst 2, 1) := by decide +kernel
theorem dX12_minute_73 : decode YX12_minute.2.1 73 = .ok (.iaload, 1) := by decide +kernel
theorem dX12_minute_74 : decode YX12_minute.2.1 74 = .ok (.if_icmp .ge 156, 3) := by decide +kernel
theorem dX12_minute_77 : decode YX12_minute.2.1 77 = .ok (.aload_n 0, 1) := by decide +kernel
theorem dX12_minute_78 : decode YX12_minute.2.1 78 = .ok (.getfield 53, 3) := by decide +kernel
theorem dX12_minute_81 : decode YX12_minute.2.1 81 = .ok (.iload_n 1, 1) := by decide +kernel
theorem dX12_minute_82 : decode YX12_minute.2.1 82 = .ok (.iaload, 1) := by decide +kernel
theorem dX12_minute_83 : decode YX12_minute.2.1 83 = .ok (.aload_n 0, 1) := by decide +kernel
theorem dX12_minute_84 : decode YX12_minute.2.1 84 = .ok (.getfield 33, 3) := by decide +kernel
theorem dX12_minute_87 : decode YX12_minute.2.1 87 = .ok (.bipush 91, 2) := by decide +kernel
theorem dX12_minute_89 : decode YX12_minute.2.1 89 = .ok (.iload_n 1, 1) := by decide +kernel
theorem dX12_minute_90 : decode YX12_minute.2.1 90 = .ok (.iadd, 1) := by decide +kernel
theorem dX12_minute_91 : decode YX12_minute.2.1 91 = .ok (.iaload, 1) := by decide +kernel
theorem dX12_minute_92 : decode YX12_minute.2.1 92 = .ok (.if_icmp .eq 41, 3) := by decide +kernel
theorem dX12_minute_95 : decode YX12_minute.2.1 95 = .ok (.aload_n 0, 1) := by decide +kernel
theorem dX12_minute_96 : decode YX12_minute.2.1 96 = .ok (.getfield 33, 3) := by decide +kernel
theorem dX12_minute_99 : decode YX12_minute.2.1 99 = .ok (.sipush 207, 3) := by decide +kernel
theorem dX12_minute_102 : decode YX12_minute.2.1 102 = .ok (.aload_n 0, 1) := by decide +kernel
theorem dX12_minute_103 : decode YX12_minute.2.1 103 = .ok (.getfield 53, 3) := by decide +kernel
theorem dX12_minute_106 : decode YX12_minute.2.1 106 = .ok (.iload_n 1, 1) := by decide +kernel
theorem dX12_minute_107 : decode YX12_minute.2.1 107 = .ok (.iaload, 1) := by decide +kernel
theorem dX12_minute_108 : decode YX12_minute.2.1 108 = .ok (.iadd, 1) := by decide +kernel
theorem dX12_minute_109 : decode YX12_minute.2.1 109 = .ok (.sipush 9999, 3) := by decide +kernel
theorem dX12_minute_112 : decode YX12_minute.2.1 112 = .ok (.aload_n 0, 1) := by decide +kernel
theorem dX12_minute_113 : decode YX12_minute.2.1 113 = .ok (.getfield 33, 3) := by decide +kernel
theorem dX12_minute_116 : decode YX12_minute.2.1 116 = .ok (.sipush 207, 3) := by decide +kernel
theorem dX12_minute_119 : decode YX12_minute.2.1 119 = .ok (.aload_n 0, 1) := by decide +kernel
theorem dX12_minute_120 : decode YX12_minute.2.1 120 = .ok (.getfield 53, 3) := by decide +kernel
theorem dX12_minute_123 : decode YX12_minute.2.1 123 = .ok (.iload_n 1, 1) := by decide +kernel
theorem dX12_minute_124 : decode YX12_minute.2.1 124 = .ok (.iaload, 1) := by decide +kernel
theorem dX12_minute_125 : decode YX12_minute.2.1 125 = .ok (.iadd, 1) := by decide +kernel
theorem dX12_minute_126 : decode YX12_minute.2.1 126 = .ok (.iaload, 1) := by decide +kernel
theorem dX12_minute_127 : decode YX12_minute.2.1 127 = .ok (.iconst 1, 1) := by decide +kernel
theorem dX12_minute_128 : decode YX12_minute.2.1 128 = .ok (.iadd, 1) := by decide +kernel
theorem dX12_minute_129 : decode YX12_minute.2.1 129 = .ok (.invokestatic 263, 3) := by decide +kernel
theorem dX12_minute_132 : decode YX12_minute.2.1 132 = .ok (.iastore, 1) := by decide +kernel
theorem dX12_minute_133 : decode YX12_minute.2.1 133 = .ok (.aload_n 0, 1) := by decide +kernel
theorem dX12_minute_134 : decode YX12_minute.2.1 134 = .ok (.getfield 33, 3) := by decide +kernel
theorem dX12_minute_137 : decode YX12_minute.2.1 137 = .ok (.bipush 91, 2) := by decide +kernel
theorem dX12_minute_139 : decode YX12_minute.2.1 139 = .ok (.iload_n 1, 1) := by decide +kernel
theorem dX12_minute_140 : decode YX12_minute.2.1 140 = .ok (.iadd, 1) := by decide +kernel
theorem dX12_minute_141 : decode YX12_minute.2.1 141 = .ok (.aload_n 0, 1) := by decide +kernel
theorem dX12_minute_142 : decode YX12_minute.2.1 142 = .ok (.getfield 53, 3) := by decide +kernel
theorem dX12_minute_145 : decode YX12_minute.2.1 145 = .ok (.iload_n 1, 1) := by decide +kernel
theorem dX12_minute_146 : decode YX12_minute.2.1 146 = .ok (.iaload, 1) := by decide +kernel
theorem dX12_minute_147 : decode YX12_minute.2.1 147 = .ok (.iastore, 1) := by decide +kernel
theorem dX12_minute_148 : decode YX12_minute.2.1 148 = .ok (.aload_n 0, 1) := by decide +kernel
theorem dX12_minute_149 : decode YX12_minute.2.1 149 = .ok (.getfield 33, 3) := by decide +kernel
theorem dX12_minute_152 : decode YX12_minute.2.1 152 = .ok (.sipush 145, 3) := by decide +kernel
theorem dX12_minute_155 : decode YX12_minute.2.1 155 = .ok (.iload_n 1, 1) := by decide +kernel
theorem dX12_minute_156 : decode YX12_minute.2.1 156 = .ok (.iadd, 1) := by decide +kernel
theorem dX12_minute_157 : decode YX12_minute.2.1 157 = .ok (.iaload, 1) := by decide +kernel
theorem dX12_minute_158 : decode YX12_minute.2.1 158 = .ok (.ifCond .ne 6, 3) := by decide +kernel
theorem dX12_minute_161 : decode YX12_minute.2.1 161 = .ok (.goto 63, 3) := by decide +kernel
theorem dX12_minute_164 : decode YX12_minute.2.1 164 = .ok (.iconst 0, 1) := by decide +kernel
theorem dX12_minute_165 : decode YX12_minute.2.1 165 = .ok (.istore_n 2, 1) := by decide +kernel
theorem dX12_minute_166 : decode YX12_minute.2.1 166 = .ok (.iload_n 2, 1) := by decide +kernel
theorem dX12_minute_167 : decode YX12_minute.2.1 167 = .ok (.bipush 7, 2) := by decide +kernel
theorem dX12_minute_169 : decode YX12_minute.2.1 169 = .ok (.if_icmp .ge 41, 3) := by decide +kernel
theorem dX12_minute_172 : decode YX12_minute.2.1 172 = .ok (.aload_n 0, 1) := by decide +kernel
theorem dX12_minute_173 : decode YX12_minute.2.1 173 = .ok (.getfield 33, 3) := by decide +kernel
theorem dX12_minute_176 : decode YX12_minute.2.1 176 = .ok (.sipush 151, 3) := by decide +kernel
theorem dX12_minute_179 : decode YX12_minute.2.1 179 = .ok (.bipush 8, 2) := by decide +kernel
theorem dX12_minute_181 : decode YX12_minute.2.1 181 = .ok (.iload_n 1, 1) := by decide +kernel
theorem dX12_minute_182 : decode YX12_minute.2.1 182 = .ok (.imul, 1) := by decide +kernel
theorem dX12_minute_183 : decode YX12_minute.2.1 183 = .ok (.iadd, 1) := by decide +kernel
theorem dX12_minute_184 : decode YX12_minute.2.1 184 = .ok (.iload_n 2, 1) := by decide +kernel
theorem dX12_minute_185 : decode YX12_minute.2.1 185 = .ok (.iadd, 1) := by decide +kernel
theorem dX12_minute_186 : decode YX12_minute.2.1 186 = .ok (.aload_n 0, 1) := by decide +kernel
theorem dX12_minute_187 : decode YX12_minute.2.1 187 = .ok (.getfield 33, 3) := by decide +kernel
theorem dX12_minute_190 : decode YX12_minute.2.1 190 = .ok (.sipush 151, 3) := by decide +kernel
theorem dX12_minute_193 : decode YX12_minute.2.1 193 = .ok (.bipush 8, 2) := by decide +kernel
theorem dX12_minute_195 : decode YX12_minute.2.1 195 = .ok (.iload_n 1, 1) := by decide +kernel
theorem dX12_minute_196 : decode YX12_minute.2.1 196 = .ok (.imul, 1) := by decide +kernel
theorem dX12_minute_197 : decode YX12_minute.2.1 197 = .ok (.iadd, 1) := by decide +kernel
theorem dX12_minute_198 : decode YX12_minute.2.1 198 = .ok (.iload_n 2, 1) := by decide +kernel
theorem dX12_minute_199 : decode YX12_minute.2.1 199 = .ok (.iadd, 1) := by decide +kernel
theorem dX12_minute_200 : decode YX12_minute.2.1 200 = .ok (.iconst 1, 1) := by decide +kernel
theorem dX12_minute_201 : decode YX12_minute.2.1 201 = .ok (.iadd, 1) := by decide +kernel
theorem dX12_minute_202 : decode YX12_minute.2.1 202 = .ok (.iaload, 1) := by decide +kernel
theorem dX12_minute_203 : decode YX12_minute.2.1 203 = .ok (.iastore, 1) := by decide +kernel
theorem dX12_minute_204 : decode YX12_minute.2.1 204 = .ok (.iinc 2 1, 3) := by decide +kernel
theorem dX12_minute_207 : decode YX12_minute.2.1 207 = .ok (.goto (-41), 3) := by decide +kernel
theorem dX12_minute_210 : decode YX12_minute.2.1 210 = .ok (.aload_n 0, 1) := by decide +kernel
theorem dX12_minute_211 : decode YX12_minute.2.1 211 = .ok (.getfield 33, 3) := by decide +kernel
theorem dX12_minute_214 : decode YX12_minute.2.1 214 = .ok (.sipush 145, 3) := by decide +kernel
theorem dX12_minute_217 : decode YX12_minute.2.1 217 = .ok (.iload_n 1, 1) := by decide +kernel
theorem dX12_minute_218 : decode YX12_minute.2.1 218 = .ok (.iadd, 1) := by decide +kernel
theorem dX12_minute_219 : decode YX12_minute.2.1 219 = .ok (.dup2, 1) := by decide +kernel
theorem dX12_minute_220 : decode YX12_minute.2.1 220 = .ok (.iaload, 1) := by decide +kernel
theorem dX12_minute_221 : decode YX12_minute.2.1 221 = .ok (.iconst 1, 1) := by decide +kernel
theorem dX12_minute_222 : decode YX12_minute.2.1 222 = .ok (.isub, 1) := by decide +kernel
theorem dX12_minute_223 : decode YX12_minute.2.1 223 = .ok (.iastore, 1) := by decide +kernel
theorem dX12_minute_224 : decode YX12_minute.2.1 224 = .ok (.iinc 1 1, 3) := by decide +kernel
theorem dX12_minute_227 : decode YX12_minute.2.1 227 = .ok (.goto (-160), 3) := by decide +kernel
theorem dX12_minute_230 : decode YX12_minute.2.1 230 = .ok (.iconst 0, 1) := by decide +kernel
theorem dX12_minute_231 : decode YX12_minute.2.1 231 = .ok (.istore_n 1, 1) := by decide +kernel
theorem dX12_minute_232 : decode YX12_minute.2.1 232 = .ok (.iload_n 1, 1) := by decide +kernel
theorem dX12_minute_233 : decode YX12_minute.2.1 233 = .ok (.aload_n 0, 1) := by decide +kernel
theorem dX12_minute_234 : decode YX12_minute.2.1 234 = .ok (.getfield 33, 3) := by decide +kernel
theorem dX12_minute_237 : decode YX12_minute.2.1 237 = .ok (.iconst 2, 1) := by decide +kernel
theorem dX12_minute_238 : decode YX12_minute.2.1 238 = .ok (.iaload, 1) := by decide +kernel
theorem dX12_minute_239 : decode YX12_minute.2.1 239 = .ok (.if_icmp .ge 86, 3) := by decide +kernel
theorem dX12_minute_242 : decode YX12_minute.2.1 242 = .ok (.aload_n 0, 1) := by decide +kernel
theorem dX12_minute_243 : decode YX12_minute.2.1 243 = .ok (.getfield 33, 3) := by decide +kernel
theorem dX12_minute_246 : decode YX12_minute.2.1 246 = .ok (.sipush 133, 3) := by decide +kernel
theorem dX12_minute_249 : decode YX12_minute.2.1 249 = .ok (.iload_n 1, 1) := by decide +kernel
theorem dX12_minute_250 : decode YX12_minute.2.1 250 = .ok (.iadd, 1) := by decide +kernel
theorem dX12_minute_251 : decode YX12_minute.2.1 251 = .ok (.iaload, 1) := by decide +kernel
theorem dX12_minute_252 : decode YX12_minute.2.1 252 = .ok (.ifCond .eq 67, 3) := by decide +kernel
theorem dX12_minute_255 : decode YX12_minute.2.1 255 = .ok (.aload_n 0, 1) := by decide +kernel
theorem dX12_minute_256 : decode YX12_minute.2.1 256 = .ok (.getfield 33, 3) := by decide +kernel
theorem dX12_minute_259 : decode YX12_minute.2.1 259 = .ok (.sipush 199, 3) := by decide +kernel
theorem dX12_minute_262 : decode YX12_minute.2.1 262 = .ok (.aload_n 0, 1) := by decide +kernel
theorem dX12_minute_263 : decode YX12_minute.2.1 263 = .ok (.getfield 53, 3) := by decide +kernel
theorem dX12_minute_266 : decode YX12_minute.2.1 266 = .ok (.iload_n 1, 1) := by decide +kernel
theorem dX12_minute_267 : decode YX12_minute.2.1 267 = .ok (.iaload, 1) := by decide +kernel
theorem dX12_minute_268 : decode YX12_minute.2.1 268 = .ok (.iadd, 1) := by decide +kernel
theorem dX12_minute_269 : decode YX12_minute.2.1 269 = .ok (.iaload, 1) := by decide +kernel
theorem dX12_minute_270 : decode YX12_minute.2.1 270 = .ok (.ifCond .ne 6, 3) := by decide +kernel
theorem dX12_minute_273 : decode YX12_minute.2.1 273 = .ok (.goto 46, 3) := by decide +kernel
theorem dX12_minute_276 : decode YX12_minute.2.1 276 = .ok (.aload_n 0, 1) := by decide +kernel
theorem dX12_minute_277 : decode YX12_minute.2.1 277 = .ok (.getfield 33, 3) := by decide +kernel
theorem dX12_minute_280 : decode YX12_minute.2.1 280 = .ok (.sipush 199, 3) := by decide +kernel
theorem dX12_minute_283 : decode YX12_minute.2.1 283 = .ok (.aload_n 0, 1) := by decide +kernel
theorem dX12_minute_284 : decode YX12_minute.2.1 284 = .ok (.getfield 53, 3) := by decide +kernel
theorem dX12_minute_287 : decode YX12_minute.2.1 287 = .ok (.iload_n 1, 1) := by decide +kernel
theorem dX12_minute_288 : decode YX12_minute.2.1 288 = .ok (.iaload, 1) := by decide +kernel
theorem dX12_minute_289 : decode YX12_minute.2.1 289 = .ok (.iadd, 1) := by decide +kernel
theorem dX12_minute_290 : decode YX12_minute.2.1 290 = .ok (.dup2, 1) := by decide +kernel
theorem dX12_minute_291 : decode YX12_minute.2.1 291 = .ok (.iaload, 1) := by decide +kernel
theorem dX12_minute_292 : decode YX12_minute.2.1 292 = .ok (.iconst 1, 1) := by decide +kernel
theorem dX12_minute_293 : decode YX12_minute.2.1 293 = .ok (.isub, 1) := by decide +kernel
theorem dX12_minute_294 : decode YX12_minute.2.1 294 = .ok (.iastore, 1) := by decide +kernel
theorem dX12_minute_295 : decode YX12_minute.2.1 295 = .ok (.aload_n 0, 1) := by decide +kernel
theorem dX12_minute_296 : decode YX12_minute.2.1 296 = .ok (.getfield 33, 3) := by decide +kernel
theorem dX12_minute_299 : decode YX12_minute.2.1 299 = .ok (.bipush 127, 2) := by decide +kernel
theorem dX12_minute_301 : decode YX12_minute.2.1 301 = .ok (.iload_n 1, 1) := by decide +kernel
theorem dX12_minute_302 : decode YX12_minute.2.1 302 = .ok (.iadd, 1) := by decide +kernel
theorem dX12_minute_303 : decode YX12_minute.2.1 303 = .ok (.dup2, 1) := by decide +kernel
theorem dX12_minute_304 : decode YX12_minute.2.1 304 = .ok (.iaload, 1) := by decide +kernel
theorem dX12_minute_305 : decode YX12_minute.2.1 305 = .ok (.iconst 1, 1) := by decide +kernel
theorem dX12_minute_306 : decode YX12_minute.2.1 306 = .ok (.iadd, 1) := by decide +kernel
theorem dX12_minute_307 : decode YX12_minute.2.1 307 = .ok (.iastore, 1) := by decide +kernel
theorem dX12_minute_308 : decode YX12_minute.2.1 308 = .ok (.aload_n 0, 1) := by decide +kernel
theorem dX12_minute_309 : decode YX12_minute.2.1 309 = .ok (.getfield 33, 3) := by decide +kernel
theorem dX12_minute_312 : decode YX12_minute.2.1 312 = .ok (.bipush 90, 2) := by decide +kernel
theorem dX12_minute_314 : decode YX12_minute.2.1 314 = .ok (.dup2, 1) := by decide +kernel
theorem dX12_minute_315 : decode YX12_minute.2.1 315 = .ok (.iaload, 1) := by decide +kernel
theorem dX12_minute_316 : decode YX12_minute.2.1 316 = .ok (.iconst 1, 1) := by decide +kernel
theorem dX12_minute_317 : decode YX12_minute.2.1 317 = .ok (.iadd, 1) := by decide +kernel
theorem dX12_minute_318 : decode YX12_minute.2.1 318 = .ok (.iastore, 1) := by decide +kernel
theorem dX12_minute_319 : decode YX12_minute.2.1 319 = .ok (.iinc 1 1, 3) := by decide +kernel
theorem dX12_minute_322 : decode YX12_minute.2.1 322 = .ok (.goto (-90), 3) := by decide +kernel
theorem dX12_minute_325 : decode YX12_minute.2.1 325 = .ok (.aload_n 0, 1) := by decide +kernel
theorem dX12_minute_326 : decode YX12_minute.2.1 326 = .ok (.getfield 33, 3) := by decide +kernel
theorem dX12_minute_329 : decode YX12_minute.2.1 329 = .ok (.bipush 89, 2) := by decide +kernel
theorem dX12_minute_331 : decode YX12_minute.2.1 331 = .ok (.dup2, 1) := by decide +kernel
theorem dX12_minute_332 : decode YX12_minute.2.1 332 = .ok (.iaload, 1) := by decide +kernel
theorem dX12_minute_333 : decode YX12_minute.2.1 333 = .ok (.iconst 1, 1) := by decide +kernel
theorem dX12_minute_334 : decode YX12_minute.2.1 334 = .ok (.iadd, 1) := by decide +kernel
theorem dX12_minute_335 : decode YX12_minute.2.1 335 = .ok (.iastore, 1) := by decide +kernel
theorem dX12_minute_336 : decode YX12_minute.2.1 336 = .ok (.return_, 1) := by decide +kernel
theorem dX12_minutes_0 : decode YX12_minutes.2.1 0 = .ok (.aload_n 0, 1) := by decide +kernel
theorem dX12_minutes_1 : decode YX12_minutes.2.1 1 = .ok (.iconst 0, 1) := by decide +kernel
theorem dX12_minutes_2 : decode YX12_minutes.2.1 2 = .ok (.putfield 1, 3) := by decide +kernel
theorem dX12_minutes_5 : decode YX12_minutes.2.1 5 = .ok (.iload_n 1, 1) := by decide +kernel
theorem dX12_minutes_6 : decode YX12_minutes.2.1 6 = .ok (.iconst 1, 1) := by decide +kernel
theorem dX12_minutes_7 : decode YX12_minutes.2.1 7 = .ok (.bipush 60, 2) := by decide +kernel
theorem dX12_minutes_9 : decode YX12_minutes.2.1 9 = .ok (.invokestatic 188, 3) := by decide +kernel
theorem dX12_minutes_12 : decode YX12_minutes.2.1 12 = .ok (.ifCond .ne 5, 3) := by decide +kernel
theorem dX12_minutes_15 : decode YX12_minutes.2.1 15 = .ok (.iconst (-1), 1) := by decide +kernel
theorem dX12_minutes_16 : decode YX12_minutes.2.1 16 = .ok (.ireturn, 1) := by decide +kernel
theorem dX12_minutes_17 : decode YX12_minutes.2.1 17 = .ok (.aload_n 0, 1) := by decide +kernel
theorem dX12_minutes_18 : decode YX12_minutes.2.1 18 = .ok (.getfield 33, 3) := by decide +kernel
theorem dX12_minutes_21 : decode YX12_minutes.2.1 21 = .ok (.bipush 89, 2) := by decide +kernel
theorem dX12_minutes_23 : decode YX12_minutes.2.1 23 = .ok (.iaload, 1) := by decide +kernel
theorem dX12_minutes_24 : decode YX12_minutes.2.1 24 = .ok (.sipush 400, 3) := by decide +kernel
theorem dX12_minutes_27 : decode YX12_minutes.2.1 27 = .ok (.if_icmp .ne 5, 3) := by decide +kernel
theorem dX12_minutes_30 : decode YX12_minutes.2.1 30 = .ok (.iconst 0, 1) := by decide +kernel
theorem dX12_minutes_31 : decode YX12_minutes.2.1 31 = .ok (.ireturn, 1) := by decide +kernel
theorem dX12_minutes_32 : decode YX12_minutes.2.1 32 = .ok (.aload_n 0, 1) := by decide +kernel
theorem dX12_minutes_33 : decode YX12_minutes.2.1 33 = .ok (.invokevirtual 304, 3) := by decide +kernel
theorem dX12_minutes_36 : decode YX12_minutes.2.1 36 = .ok (.aload_n 0, 1) := by decide +kernel
theorem dX12_minutes_37 : decode YX12_minutes.2.1 37 = .ok (.iload_n 1, 1) := by decide +kernel
theorem dX12_minutes_38 : decode YX12_minutes.2.1 38 = .ok (.invokevirtual 324, 3) := by decide +kernel
theorem dX12_minutes_41 : decode YX12_minutes.2.1 41 = .ok (.ireturn, 1) := by decide +kernel
theorem dX12_next_0 : decode YX12_next.2.1 0 = .ok (.aload_n 0, 1) := by decide +kernel
theorem dX12_next_1 : decode YX12_next.2.1 1 = .ok (.invokevirtual 146, 3) := by decide +kernel
theorem dX12_next_4 : decode YX12_next.2.1 4 = .ok (.bipush 32, 2) := by decide +kernel
theorem dX12_next_6 : decode YX12_next.2.1 6 = .ok (.if_icmp .eq 12, 3) := by decide +kernel
theorem dX12_next_9 : decode YX12_next.2.1 9 = .ok (.aload_n 0, 1) := by decide +kernel
theorem dX12_next_10 : decode YX12_next.2.1 10 = .ok (.invokevirtual 146, 3) := by decide +kernel
theorem dX12_next_13 : decode YX12_next.2.1 13 = .ok (.bipush 10, 2) := by decide +kernel
theorem dX12_next_15 : decode YX12_next.2.1 15 = .ok (.if_icmp .ne 16, 3) := by decide +kernel
theorem dX12_next_18 : decode YX12_next.2.1 18 = .ok (.aload_n 0, 1) := by decide +kernel
theorem dX12_next_19 : decode YX12_next.2.1 19 = .ok (.dup, 1) := by decide +kernel
theorem dX12_next_20 : decode YX12_next.2.1 20 = .ok (.getfield 21, 3) := by decide +kernel
theorem dX12_next_23 : decode YX12_next.2.1 23 = .ok (.iconst 1, 1) := by decide +kernel
theorem dX12_next_24 : decode YX12_next.2.1 24 = .ok (.iadd, 1) := by decide +kernel
theorem dX12_next_25 : decode YX12_next.2.1 25 = .ok (.putfield 21, 3) := by decide +kernel
theorem dX12_next_28 : decode YX12_next.2.1 28 = .ok (.goto (-28), 3) := by decide +kernel
theorem dX12_next_31 : decode YX12_next.2.1 31 = .ok (.aload_n 0, 1) := by decide +kernel
theorem dX12_next_32 : decode YX12_next.2.1 32 = .ok (.aload_n 0, 1) := by decide +kernel
theorem dX12_next_33 : decode YX12_next.2.1 33 = .ok (.getfield 21, 3) := by decide +kernel
theorem dX12_next_36 : decode YX12_next.2.1 36 = .ok (.putfield 150, 3) := by decide +kernel
theorem dX12_next_39 : decode YX12_next.2.1 39 = .ok (.aload_n 0, 1) := by decide +kernel
theorem dX12_next_40 : decode YX12_next.2.1 40 = .ok (.iconst 0, 1) := by decide +kernel
theorem dX12_next_41 : decode YX12_next.2.1 41 = .ok (.putfield 153, 3) := by decide +kernel
theorem dX12_next_44 : decode YX12_next.2.1 44 = .ok (.aload_n 0, 1) := by decide +kernel
theorem dX12_next_45 : decode YX12_next.2.1 45 = .ok (.getfield 18, 3) := by decide +kernel
theorem dX12_next_48 : decode YX12_next.2.1 48 = .ok (.aload_n 0, 1) := by decide +kernel
theorem dX12_next_49 : decode YX12_next.2.1 49 = .ok (.getfield 24, 3) := by decide +kernel
theorem dX12_next_52 : decode YX12_next.2.1 52 = .ok (.if_icmp .le 28, 3) := by decide +kernel
theorem dX12_next_55 : decode YX12_next.2.1 55 = .ok (.aload_n 0, 1) := by decide +kernel
theorem dX12_next_56 : decode YX12_next.2.1 56 = .ok (.getfield 21, 3) := by decide +kernel
theorem dX12_next_59 : decode YX12_next.2.1 59 = .ok (.aload_n 0, 1) := by decide +kernel
theorem dX12_next_60 : decode YX12_next.2.1 60 = .ok (.getfield 24, 3) := by decide +kernel
theorem dX12_next_63 : decode YX12_next.2.1 63 = .ok (.if_icmp .lt 17, 3) := by decide +kernel
theorem dX12_next_66 : decode YX12_next.2.1 66 = .ok (.aload_n 0, 1) := by decide +kernel
theorem dX12_next_67 : decode YX12_next.2.1 67 = .ok (.aload_n 0, 1) := by decide +kernel
theorem dX12_next_68 : decode YX12_next.2.1 68 = .ok (.getfield 24, 3) := by decide +kernel
theorem dX12_next_71 : decode YX12_next.2.1 71 = .ok (.putfield 150, 3) := by decide +kernel
theorem dX12_next_74 : decode YX12_next.2.1 74 = .ok (.aload_n 0, 1) := by decide +kernel
theorem dX12_next_75 : decode YX12_next.2.1 75 = .ok (.iconst 4, 1) := by decide +kernel
theorem dX12_next_76 : decode YX12_next.2.1 76 = .ok (.putfield 156, 3) := by decide +kernel
theorem dX12_next_79 : decode YX12_next.2.1 79 = .ok (.return_, 1) := by decide +kernel
theorem dX12_next_80 : decode YX12_next.2.1 80 = .ok (.aload_n 0, 1) := by decide +kernel
theorem dX12_next_81 : decode YX12_next.2.1 81 = .ok (.invokevirtual 146, 3) := by decide +kernel
theorem dX12_next_84 : decode YX12_next.2.1 84 = .ok (.istore_n 1, 1) := by decide +kernel
theorem dX12_next_85 : decode YX12_next.2.1 85 = .ok (.iload_n 1, 1) := by decide +kernel
theorem dX12_next_86 : decode YX12_next.2.1 86 = .ok (.ifCond .ge 9, 3) := by decide +kernel
theorem dX12_next_89 : decode YX12_next.2.1 89 = .ok (.aload_n 0, 1) := by decide +kernel
theorem dX12_next_90 : decode YX12_next.2.1 90 = .ok (.iconst 0, 1) := by decide +kernel
theorem dX12_next_91 : decode YX12_next.2.1 91 = .ok (.putfield 156, 3) := by decide +kernel
theorem dX12_next_94 : decode YX12_next.2.1 94 = .ok (.return_, 1) := by decide +kernel
theorem dX12_next_95 : decode YX12_next.2.1 95 = .ok (.iload_n 1, 1) := by decide +kernel
theorem dX12_next_96 : decode YX12_next.2.1 96 = .ok (.invokestatic 159, 3) := by decide +kernel
theorem dX12_next_99 : decode YX12_next.2.1 99 = .ok (.ifCond .ne 65, 3) := by decide +kernel
theorem dX12_next_102 : decode YX12_next.2.1 102 = .ok (.iload_n 1, 1) := by decide +kernel
theorem dX12_next_103 : decode YX12_next.2.1 103 = .ok (.invokestatic 163, 3) := by decide +kernel
theorem dX12_next_106 : decode YX12_next.2.1 106 = .ok (.ifCond .ne 58, 3) := by decide +kernel
theorem dX12_next_109 : decode YX12_next.2.1 109 = .ok (.aload_n 0, 1) := by decide +kernel
theorem dX12_next_110 : decode YX12_next.2.1 110 = .ok (.iload_n 1, 1) := by decide +kernel
theorem dX12_next_111 : decode YX12_next.2.1 111 = .ok (.bipush 59, 2) := by decide +kernel
theorem dX12_next_113 : decode YX12_next.2.1 113 = .ok (.if_icmp .eq 27, 3) := by decide +kernel
theorem dX12_next_116 : decode YX12_next.2.1 116 = .ok (.iload_n 1, 1) := by decide +kernel
theorem dX12_next_117 : decode YX12_next.2.1 117 = .ok (.bipush 40, 2) := by decide +kernel
theorem dX12_next_119 : decode YX12_next.2.1 119 = .ok (.if_icmp .eq 21, 3) := by decide +kernel
theorem dX12_next_122 : decode YX12_next.2.1 122 = .ok (.iload_n 1, 1) := by decide +kernel
theorem dX12_next_123 : decode YX12_next.2.1 123 = .ok (.bipush 41, 2) := by decide +kernel
theorem dX12_next_125 : decode YX12_next.2.1 125 = .ok (.if_icmp .eq 15, 3) := by decide +kernel
theorem dX12_next_128 : decode YX12_next.2.1 128 = .ok (.iload_n 1, 1) := by decide +kernel
theorem dX12_next_129 : decode YX12_next.2.1 129 = .ok (.bipush 60, 2) := by decide +kernel
theorem dX12_next_131 : decode YX12_next.2.1 131 = .ok (.if_icmp .lt 13, 3) := by decide +kernel
theorem dX12_next_134 : decode YX12_next.2.1 134 = .ok (.iload_n 1, 1) := by decide +kernel
theorem dX12_next_135 : decode YX12_next.2.1 135 = .ok (.bipush 62, 2) := by decide +kernel
theorem dX12_next_137 : decode YX12_next.2.1 137 = .ok (.if_icmp .gt 7, 3) := by decide +kernel
theorem dX12_next_140 : decode YX12_next.2.1 140 = .ok (.iconst 3, 1) := by decide +kernel
theorem dX12_next_141 : decode YX12_next.2.1 141 = .ok (.goto 4, 3) := by decide +kernel
theorem dX12_next_144 : decode YX12_next.2.1 144 = .ok (.iconst 4, 1) := by decide +kernel
theorem dX12_next_145 : decode YX12_next.2.1 145 = .ok (.putfield 156, 3) := by decide +kernel
theorem dX12_next_148 : decode YX12_next.2.1 148 = .ok (.aload_n 0, 1) := by decide +kernel
theorem dX12_next_149 : decode YX12_next.2.1 149 = .ok (.iload_n 1, 1) := by decide +kernel
theorem dX12_next_150 : decode YX12_next.2.1 150 = .ok (.putfield 166, 3) := by decide +kernel
theorem dX12_next_153 : decode YX12_next.2.1 153 = .ok (.aload_n 0, 1) := by decide +kernel
theorem dX12_next_154 : decode YX12_next.2.1 154 = .ok (.dup, 1) := by decide +kernel
theorem dX12_next_155 : decode YX12_next.2.1 155 = .ok (.getfield 21, 3) := by decide +kernel
theorem dX12_next_158 : decode YX12_next.2.1 158 = .ok (.iconst 1, 1) := by decide +kernel
theorem dX12_next_159 : decode YX12_next.2.1 159 = .ok (.iadd, 1) := by decide +kernel
theorem dX12_next_160 : decode YX12_next.2.1 160 = .ok (.putfield 21, 3) := by decide +kernel
theorem dX12_next_163 : decode YX12_next.2.1 163 = .ok (.return_, 1) := by decide +kernel
theorem dX12_next_164 : decode YX12_next.2.1 164 = .ok (.iload_n 1, 1) := by decide +kernel
theorem dX12_next_165 : decode YX12_next.2.1 165 = .ok (.invokestatic 159, 3) := by decide +kernel
theorem dX12_next_168 : decode YX12_next.2.1 168 = .ok (.istore_n 2, 1) := by decide +kernel
theorem dX12_next_169 : decode YX12_next.2.1 169 = .ok (.iconst 1, 1) := by decide +kernel
theorem dX12_next_170 : decode YX12_next.2.1 170 = .ok (.istore_n 3, 1) := by decide +kernel
theorem dX12_next_171 : decode YX12_next.2.1 171 = .ok (.aload_n 0, 1) := by decide +kernel
theorem dX12_next_172 : decode YX12_next.2.1 172 = .ok (.lconst 0, 1) := by decide +kernel
theorem dX12_next_173 : decode YX12_next.2.1 173 = .ok (.putfield 169, 3) := by decide +kernel
theorem dX12_next_176 : decode YX12_next.2.1 176 = .ok (.aload_n 0, 1) := by decide +kernel
theorem dX12_next_177 : decode YX12_next.2.1 177 = .ok (.iconst 0, 1) := by decide +kernel
theorem dX12_next_178 : decode YX12_next.2.1 178 = .ok (.putfield 166, 3) := by decide +kernel
theorem dX12_next_181 : decode YX12_next.2.1 181 = .ok (.aload_n 0, 1) := by decide +kernel
theorem dX12_next_182 : decode YX12_next.2.1 182 = .ok (.invokevirtual 146, 3) := by decide +kernel
theorem dX12_next_185 : decode YX12_next.2.1 185 = .ok (.invokestatic 159, 3) := by decide +kernel
theorem dX12_next_188 : decode YX12_next.2.1 188 = .ok (.ifCond .ne 13, 3) := by decide +kernel
theorem dX12_next_191 : decode YX12_next.2.1 191 = .ok (.aload_n 0, 1) := by decide +kernel
theorem dX12_next_192 : decode YX12_next.2.1 192 = .ok (.invokevirtual 146, 3) := by decide +kernel
theorem dX12_next_195 : decode YX12_next.2.1 195 = .ok (.invokestatic 163, 3) := by decide +kernel
theorem dX12_next_198 : decode YX12_next.2.1 198 = .ok (.ifCond .eq 100, 3) := by decide +kernel
theorem dX12_next_201 : decode YX12_next.2.1 201 = .ok (.iload_n 3, 1) := by decide +kernel
theorem dX12_next_202 : decode YX12_next.2.1 202 = .ok (.ifCond .eq 18, 3) := by decide +kernel
theorem dX12_next_205 : decode YX12_next.2.1 205 = .ok (.aload_n 0, 1) := by decide +kernel
theorem dX12_next_206 : decode YX12_next.2.1 206 = .ok (.invokevirtual 146, 3) := by decide +kernel
theorem dX12_next_209 : decode YX12_next.2.1 209 = .ok (.invokestatic 159, 3) := by decide +kernel
theorem dX12_next_212 : decode YX12_next.2.1 212 = .ok (.iload_n 2, 1) := by decide +kernel
theorem dX12_next_213 : decode YX12_next.2.1 213 = .ok (.if_icmp .ne 7, 3) := by decide +kernel
theorem dX12_next_216 : decode YX12_next.2.1 216 = .ok (.iconst 1, 1) := by decide +kernel
theorem dX12_next_217 : decode YX12_next.2.1 217 = .ok (.goto 4, 3) := by decide +kernel
theorem dX12_next_220 : decode YX12_next.2.1 220 = .ok (.iconst 0, 1) := by decide +kernel
theorem dX12_next_221 : decode YX12_next.2.1 221 = .ok (.istore_n 3, 1) := by decide +kernel
theorem dX12_next_222 : decode YX12_next.2.1 222 = .ok (.aload_n 0, 1) := by decide +kernel
theorem dX12_next_223 : decode YX12_next.2.1 223 = .ok (.getfield 153, 3) := by decide +kernel
theorem dX12_next_226 : decode YX12_next.2.1 226 = .ok (.bipush 7, 2) := by decide +kernel
theorem dX12_next_228 : decode YX12_next.2.1 228 = .ok (.if_icmp .ge 20, 3) := by decide +kernel
theorem dX12_next_231 : decode YX12_next.2.1 231 = .ok (.aload_n 0, 1) := by decide +kernel
theorem dX12_next_232 : decode YX12_next.2.1 232 = .ok (.aload_n 0, 1) := by decide +kernel
theorem dX12_next_233 : decode YX12_next.2.1 233 = .ok (.getfield 169, 3) := by decide +kernel
theorem dX12_next_236 : decode YX12_next.2.1 236 = .ok (.bipush 8, 2) := by decide +kernel
theorem dX12_next_238 : decode YX12_next.2.1 238 = .ok (.lshl, 1) := by decide +kernel
theorem dX12_next_239 : decode YX12_next.2.1 239 = .ok (.aload_n 0, 1) := by decide +kernel
theorem dX12_next_240 : decode YX12_next.2.1 240 = .ok (.invokevirtual 146, 3) := by decide +kernel
theorem dX12_next_243 : decode YX12_next.2.1 243 = .ok (.i2l, 1) := by decide +kernel
theorem dX12_next_244 : decode YX12_next.2.1 244 = .ok (.lor, 1) := by decide +kernel
theorem dX12_next_245 : decode YX12_next.2.1 245 = .ok (.putfield 169, 3) := by decide +kernel
theorem dX12_next_248 : decode YX12_next.2.1 248 = .ok (.aload_n 0, 1) := by decide +kernel
theorem dX12_next_249 : decode YX12_next.2.1 249 = .ok (.getfield 153, 3) := by decide +kernel
theorem dX12_next_252 : decode YX12_next.2.1 252 = .ok (.iconst 3, 1) := by decide +kernel
theorem dX12_next_253 : decode YX12_next.2.1 253 = .ok (.if_icmp .ge 22, 3) := by decide +kernel
theorem dX12_next_256 : decode YX12_next.2.1 256 = .ok (.aload_n 0, 1) := by decide +kernel
theorem dX12_next_257 : decode YX12_next.2.1 257 = .ok (.bipush 10, 2) := by decide +kernel
theorem dX12_next_259 : decode YX12_next.2.1 259 = .ok (.aload_n 0, 1) := by decide +kernel
theorem dX12_next_260 : decode YX12_next.2.1 260 = .ok (.getfield 166, 3) := by decide +kernel
theorem dX12_next_263 : decode YX12_next.2.1 263 = .ok (.imul, 1) := by decide +kernel
theorem dX12_next_264 : decode YX12_next.2.1 264 = .ok (.aload_n 0, 1) := by decide +kernel
theorem dX12_next_265 : decode YX12_next.2.1 265 = .ok (.invokevirtual 146, 3) := by decide +kernel
theorem dX12_next_268 : decode YX12_next.2.1 268 = .ok (.iadd, 1) := by decide +kernel
theorem dX12_next_269 : decode YX12_next.2.1 269 = .ok (.bipush 48, 2) := by decide +kernel
theorem dX12_next_271 : decode YX12_next.2.1 271 = .ok (.isub, 1) := by decide +kernel
theorem dX12_next_272 : decode YX12_next.2.1 272 = .ok (.putfield 166, 3) := by decide +kernel
theorem dX12_next_275 : decode YX12_next.2.1 275 = .ok (.aload_n 0, 1) := by decide +kernel
theorem dX12_next_276 : decode YX12_next.2.1 276 = .ok (.dup, 1) := by decide +kernel
theorem dX12_next_277 : decode YX12_next.2.1 277 = .ok (.getfield 153, 3) := by decide +kernel
theorem dX12_next_280 : decode YX12_next.2.1 280 = .ok (.iconst 1, 1) := by decide +kernel
theorem dX12_next_281 : decode YX12_next.2.1 281 = .ok (.iadd, 1) := by decide +kernel
theorem dX12_next_282 : decode YX12_next.2.1 282 = .ok (.putfield 153, 3) := by decide +kernel
theorem dX12_next_285 : decode YX12_next.2.1 285 = .ok (.aload_n 0, 1) := by decide +kernel
theorem dX12_next_286 : decode YX12_next.2.1 286 = .ok (.dup, 1) := by decide +kernel
theorem dX12_next_287 : decode YX12_next.2.1 287 = .ok (.getfield 21, 3) := by decide +kernel
theorem dX12_next_290 : decode YX12_next.2.1 290 = .ok (.iconst 1, 1) := by decide +kernel
theorem dX12_next_291 : decode YX12_next.2.1 291 = .ok (.iadd, 1) := by decide +kernel
theorem dX12_next_292 : decode YX12_next.2.1 292 = .ok (.putfield 21, 3) := by decide +kernel
theorem dX12_next_295 : decode YX12_next.2.1 295 = .ok (.goto (-114), 3) := by decide +kernel
theorem dX12_next_298 : decode YX12_next.2.1 298 = .ok (.aload_n 0, 1) := by decide +kernel
theorem dX12_next_299 : decode YX12_next.2.1 299 = .ok (.iload_n 3, 1) := by decide +kernel
theorem dX12_next_300 : decode YX12_next.2.1 300 = .ok (.ifCond .eq 20, 3) := by decide +kernel
theorem dX12_next_303 : decode YX12_next.2.1 303 = .ok (.aload_n 0, 1) := by decide +kernel
theorem dX12_next_304 : decode YX12_next.2.1 304 = .ok (.getfield 153, 3) := by decide +kernel
theorem dX12_next_307 : decode YX12_next.2.1 307 = .ok (.iload_n 2, 1) := by decide +kernel
theorem dX12_next_308 : decode YX12_next.2.1 308 = .ok (.ifCond .eq 8, 3) := by decide +kernel
theorem dX12_next_311 : decode YX12_next.2.1 311 = .ok (.bipush 7, 2) := by decide +kernel
theorem dX12_next_313 : decode YX12_next.2.1 313 = .ok (.goto 4, 3) := by decide +kernel
theorem dX12_next_316 : decode YX12_next.2.1 316 = .ok (.iconst 3, 1) := by decide +kernel
theorem dX12_next_317 : decode YX12_next.2.1 317 = .ok (.if_icmp .le 7, 3) := by decide +kernel
theorem dX12_next_320 : decode YX12_next.2.1 320 = .ok (.iconst 4, 1) := by decide +kernel
theorem dX12_next_321 : decode YX12_next.2.1 321 = .ok (.goto 12, 3) := by decide +kernel
theorem dX12_next_324 : decode YX12_next.2.1 324 = .ok (.iload_n 2, 1) := by decide +kernel
theorem dX12_next_325 : decode YX12_next.2.1 325 = .ok (.ifCond .eq 7, 3) := by decide +kernel
theorem dX12_next_328 : decode YX12_next.2.1 328 = .ok (.iconst 1, 1) := by decide +kernel
theorem dX12_next_329 : decode YX12_next.2.1 329 = .ok (.goto 4, 3) := by decide +kernel
theorem dX12_next_332 : decode YX12_next.2.1 332 = .ok (.iconst 2, 1) := by decide +kernel
theorem dX12_next_333 : decode YX12_next.2.1 333 = .ok (.putfield 156, 3) := by decide +kernel
theorem dX12_next_336 : decode YX12_next.2.1 336 = .ok (.return_, 1) := by decide +kernel
theorem dX12_nots_0 : decode YX12_nots.2.1 0 = .ok (.aload_n 0, 1) := by decide +kernel
theorem dX12_nots_1 : decode YX12_nots.2.1 1 = .ok (.getfield 432, 3) := by decide +kernel
theorem dX12_nots_4 : decode YX12_nots.2.1 4 = .ok (.ifCond .le 50, 3) := by decide +kernel
theorem dX12_nots_7 : decode YX12_nots.2.1 7 = .ok (.aload_n 0, 1) := by decide +kernel
theorem dX12_nots_8 : decode YX12_nots.2.1 8 = .ok (.getfield 83, 3) := by decide +kernel
theorem dX12_nots_11 : decode YX12_nots.2.1 11 = .ok (.aload_n 0, 1) := by decide +kernel
theorem dX12_nots_12 : decode YX12_nots.2.1 12 = .ok (.getfield 432, 3) := by decide +kernel
theorem dX12_nots_15 : decode YX12_nots.2.1 15 = .ok (.iconst 1, 1) := by decide +kernel
theorem dX12_nots_16 : decode YX12_nots.2.1 16 = .ok (.isub, 1) := by decide +kernel
theorem dX12_nots_17 : decode YX12_nots.2.1 17 = .ok (.iaload, 1) := by decide +kernel
theorem dX12_nots_18 : decode YX12_nots.2.1 18 = .ok (.bipush 20, 2) := by decide +kernel
theorem dX12_nots_20 : decode YX12_nots.2.1 20 = .ok (.if_icmp .ne 34, 3) := by decide +kernel
theorem dX12_nots_23 : decode YX12_nots.2.1 23 = .ok (.aload_n 0, 1) := by decide +kernel
theorem dX12_nots_24 : decode YX12_nots.2.1 24 = .ok (.dup, 1) := by decide +kernel
theorem dX12_nots_25 : decode YX12_nots.2.1 25 = .ok (.getfield 432, 3) := by decide +kernel
theorem dX12_nots_28 : decode YX12_nots.2.1 28 = .ok (.iconst 1, 1) := by decide +kernel
theorem dX12_nots_29 : decode YX12_nots.2.1 29 = .ok (.isub, 1) := by decide +kernel
theorem dX12_nots_30 : decode YX12_nots.2.1 30 = .ok (.putfield 432, 3) := by decide +kernel
theorem dX12_nots_33 : decode YX12_nots.2.1 33 = .ok (.aload_n 0, 1) := by decide +kernel
theorem dX12_nots_34 : decode YX12_nots.2.1 34 = .ok (.dup, 1) := by decide +kernel
theorem dX12_nots_35 : decode YX12_nots.2.1 35 = .ok (.getfield 438, 3) := by decide +kernel
theorem dX12_nots_38 : decode YX12_nots.2.1 38 = .ok (.iconst 1, 1) := by decide +kernel
theorem dX12_nots_39 : decode YX12_nots.2.1 39 = .ok (.isub, 1) := by decide +kernel
theorem dX12_nots_40 : decode YX12_nots.2.1 40 = .ok (.putfield 438, 3) := by decide +kernel
theorem dX12_nots_43 : decode YX12_nots.2.1 43 = .ok (.aload_n 0, 1) := by decide +kernel
theorem dX12_nots_44 : decode YX12_nots.2.1 44 = .ok (.bipush 20, 2) := by decide +kernel
theorem dX12_nots_46 : decode YX12_nots.2.1 46 = .ok (.iconst 0, 1) := by decide +kernel
theorem dX12_nots_47 : decode YX12_nots.2.1 47 = .ok (.iconst 0, 1) := by decide +kernel
theorem dX12_nots_48 : decode YX12_nots.2.1 48 = .ok (.invokevirtual 435, 3) := by decide +kernel
theorem dX12_nots_51 : decode YX12_nots.2.1 51 = .ok (.goto (-51), 3) := by decide +kernel
theorem dX12_nots_54 : decode YX12_nots.2.1 54 = .ok (.return_, 1) := by decide +kernel
theorem dX12_now_0 : decode YX12_now.2.1 0 = .ok (.aload_n 0, 1) := by decide +kernel
theorem dX12_now_1 : decode YX12_now.2.1 1 = .ok (.iconst 0, 1) := by decide +kernel
theorem dX12_now_2 : decode YX12_now.2.1 2 = .ok (.putfield 1, 3) := by decide +kernel
theorem dX12_now_5 : decode YX12_now.2.1 5 = .ok (.iconst 0, 1) := by decide +kernel
theorem dX12_now_6 : decode YX12_now.2.1 6 = .ok (.istore_n 2, 1) := by decide +kernel
theorem dX12_now_7 : decode YX12_now.2.1 7 = .ok (.iconst 0, 1) := by decide +kernel
theorem dX12_now_8 : decode YX12_now.2.1 8 = .ok (.istore_n 3, 1) := by decide +kernel
theorem dX12_now_9 : decode YX12_now.2.1 9 = .ok (.iconst 0, 1) := by decide +kernel
theorem dX12_now_10 : decode YX12_now.2.1 10 = .ok (.istore 4, 2) := by decide +kernel
theorem dX12_now_12 : decode YX12_now.2.1 12 = .ok (.iconst 0, 1) := by decide +kernel
theorem dX12_now_13 : decode YX12_now.2.1 13 = .ok (.istore 5, 2) := by decide +kernel
theorem dX12_now_15 : decode YX12_now.2.1 15 = .ok (.iconst 0, 1) := by decide +kernel
theorem dX12_now_16 : decode YX12_now.2.1 16 = .ok (.istore 6, 2) := by decide +kernel
theorem dX12_now_18 : decode YX12_now.2.1 18 = .ok (.iload 6, 2) := by decide +kernel
theorem dX12_now_20 : decode YX12_now.2.1 20 = .ok (.aload_n 0, 1) := by decide +kernel
theorem dX12_now_21 : decode YX12_now.2.1 21 = .ok (.getfield 33, 3) := by decide +kernel
theorem dX12_now_24 : decode YX12_now.2.1 24 = .ok (.iconst 2, 1) := by decide +kernel
theorem dX12_now_25 : decode YX12_now.2.1 25 = .ok (.iaload, 1) := by decide +kernel
theorem dX12_now_26 : decode YX12_now.2.1 26 = .ok (.if_icmp .ge 102, 3) := by decide +kernel
theorem dX12_now_29 : decode YX12_now.2.1 29 = .ok (.aload_n 0, 1) := by decide +kernel
theorem dX12_now_30 : decode YX12_now.2.1 30 = .ok (.iload 6, 2) := by decide +kernel
theorem dX12_now_32 : decode YX12_now.2.1 32 = .ok (.invokevirtual 286, 3) := by decide +kernel
theorem dX12_now_35 : decode YX12_now.2.1 35 = .ok (.istore 7, 2) := by decide +kernel
theorem dX12_now_37 : decode YX12_now.2.1 37 = .ok (.iload_n 2, 1) := by decide +kernel
theorem dX12_now_38 : decode YX12_now.2.1 38 = .ok (.aload_n 0, 1) := by decide +kernel
theorem dX12_now_39 : decode YX12_now.2.1 39 = .ok (.getfield 33, 3) := by decide +kernel
theorem dX12_now_42 : decode YX12_now.2.1 42 = .ok (.sipush 133, 3) := by decide +kernel
theorem dX12_now_45 : decode YX12_now.2.1 45 = .ok (.iload 6, 2) := by decide +kernel
theorem dX12_now_47 : decode YX12_now.2.1 47 = .ok (.iadd, 1) := by decide +kernel
theorem dX12_now_48 : decode YX12_now.2.1 48 = .ok (.iaload, 1) := by decide +kernel
theorem dX12_now_49 : decode YX12_now.2.1 49 = .ok (.ifCond .le 10, 3) := by decide +kernel
theorem dX12_now_52 : decode YX12_now.2.1 52 = .ok (.iconst 1, 1) := by decide +kernel
theorem dX12_now_53 : decode YX12_now.2.1 53 = .ok (.iload 6, 2) := by decide +kernel
theorem dX12_now_55 : decode YX12_now.2.1 55 = .ok (.ishl, 1) := by decide +kernel
theorem dX12_now_56 : decode YX12_now.2.1 56 = .ok (.goto 4, 3) := by decide +kernel
theorem dX12_now_59 : decode YX12_now.2.1 59 = .ok (.iconst 0, 1) := by decide +kernel
theorem dX12_now_60 : decode YX12_now.2.1 60 = .ok (.ior, 1) := by decide +kernel
theorem dX12_now_61 : decode YX12_now.2.1 61 = .ok (.istore_n 2, 1) := by decide +kernel
theorem dX12_now_62 : decode YX12_now.2.1 62 = .ok (.iload_n 3, 1) := by decide +kernel
theorem dX12_now_63 : decode YX12_now.2.1 63 = .ok (.aload_n 0, 1) := by decide +kernel
theorem dX12_now_64 : decode YX12_now.2.1 64 = .ok (.getfield 33, 3) := by decide +kernel
theorem dX12_now_67 : decode YX12_now.2.1 67 = .ok (.sipush 145, 3) := by decide +kernel
theorem dX12_now_70 : decode YX12_now.2.1 70 = .ok (.iload 6, 2) := by decide +kernel
theorem dX12_now_72 : decode YX12_now.2.1 72 = .ok (.iadd, 1) := by decide +kernel
theorem dX12_now_73 : decode YX12_now.2.1 73 = .ok (.iaload, 1) := by decide +kernel
theorem dX12_now_74 : decode YX12_now.2.1 74 = .ok (.ifCond .le 10, 3) := by decide +kernel
theorem dX12_now_77 : decode YX12_now.2.1 77 = .ok (.iconst 1, 1) := by decide +kernel
theorem dX12_now_78 : decode YX12_now.2.1 78 = .ok (.iload 6, 2) := by decide +kernel
theorem dX12_now_80 : decode YX12_now.2.1 80 = .ok (.ishl, 1) := by decide +kernel
theorem dX12_now_81 : decode YX12_now.2.1 81 = .ok (.goto 4, 3) := by decide +kernel
theorem dX12_now_84 : decode YX12_now.2.1 84 = .ok (.iconst 0, 1) := by decide +kernel
theorem dX12_now_85 : decode YX12_now.2.1 85 = .ok (.ior, 1) := by decide +kernel
theorem dX12_now_86 : decode YX12_now.2.1 86 = .ok (.istore_n 3, 1) := by decide +kernel
theorem dX12_now_87 : decode YX12_now.2.1 87 = .ok (.iload 4, 2) := by decide +kernel
theorem dX12_now_89 : decode YX12_now.2.1 89 = .ok (.iload 7, 2) := by decide +kernel
theorem dX12_now_91 : decode YX12_now.2.1 91 = .ok (.ior, 1) := by decide +kernel
theorem dX12_now_92 : decode YX12_now.2.1 92 = .ok (.istore 4, 2) := by decide +kernel
theorem dX12_now_94 : decode YX12_now.2.1 94 = .ok (.iload 5, 2) := by decide +kernel
theorem dX12_now_96 : decode YX12_now.2.1 96 = .ok (.iload 7, 2) := by decide +kernel
theorem dX12_now_98 : decode YX12_now.2.1 98 = .ok (.ifCond .le 20, 3) := by decide +kernel
theorem dX12_now_101 : decode YX12_now.2.1 101 = .ok (.iload 7, 2) := by decide +kernel
theorem dX12_now_103 : decode YX12_now.2.1 103 = .ok (.iload 6, 2) := by decide +kernel
theorem dX12_now_105 : decode YX12_now.2.1 105 = .ok (.ishr, 1) := by decide +kernel
theorem dX12_now_106 : decode YX12_now.2.1 106 = .ok (.iload 6, 2) := by decide +kernel
theorem dX12_now_108 : decode YX12_now.2.1 108 = .ok (.ishl, 1) := by decide +kernel
theorem dX12_now_109 : decode YX12_now.2.1 109 = .ok (.iload 7, 2) := by decide +kernel
theorem dX12_now_111 : decode YX12_now.2.1 111 = .ok (.if_icmp .ne 7, 3) := by decide +kernel
theorem dX12_now_114 : decode YX12_now.2.1 114 = .ok (.iconst 1, 1) := by decide +kernel
theorem dX12_now_115 : decode YX12_now.2.1 115 = .ok (.goto 4, 3) := by decide +kernel
theorem dX12_now_118 : decode YX12_now.2.1 118 = .ok (.iconst 0, 1) := by decide +kernel
theorem dX12_now_119 : decode YX12_now.2.1 119 = .ok (.iadd, 1) := by decide +kernel
theorem dX12_now_120 : decode YX12_now.2.1 120 = .ok (.istore 5, 2) := by decide +kernel
theorem dX12_now_122 : decode YX12_now.2.1 122 = .ok (.iinc 6 1, 3) := by decide +kernel
theorem dX12_now_125 : decode YX12_now.2.1 125 = .ok (.goto (-107), 3) := by decide +kernel
theorem dX12_now_128 : decode YX12_now.2.1 128 = .ok (.iload_n 1, 1) := by decide +kernel
theorem dX12_now_129 : decode YX12_now.2.1 129 = .ok (.tableswitch 74 0 6 #[43, 51, 53, 55, 58, 61, 66], 43) := by decide +kernel
theorem dX12_now_172 : decode YX12_now.2.1 172 = .ok (.aload_n 0, 1) := by decide +kernel
theorem dX12_now_173 : decode YX12_now.2.1 173 = .ok (.getfield 33, 3) := by decide +kernel
theorem dX12_now_176 : decode YX12_now.2.1 176 = .ok (.bipush 89, 2) := by decide +kernel
theorem dX12_now_178 : decode YX12_now.2.1 178 = .ok (.iaload, 1) := by decide +kernel
theorem dX12_now_179 : decode YX12_now.2.1 179 = .ok (.ireturn, 1) := by decide +kernel
theorem dX12_now_180 : decode YX12_now.2.1 180 = .ok (.iload_n 2, 1) := by decide +kernel
theorem dX12_now_181 : decode YX12_now.2.1 181 = .ok (.ireturn, 1) := by decide +kernel
theorem dX12_now_182 : decode YX12_now.2.1 182 = .ok (.iload_n 3, 1) := by decide +kernel
theorem dX12_now_183 : decode YX12_now.2.1 183 = .ok (.ireturn, 1) := by decide +kernel
theorem dX12_now_184 : decode YX12_now.2.1 184 = .ok (.iload 4, 2) := by decide +kernel
theorem dX12_now_186 : decode YX12_now.2.1 186 = .ok (.ireturn, 1) := by decide +kernel
theorem dX12_now_187 : decode YX12_now.2.1 187 = .ok (.iload 5, 2) := by decide +kernel
theorem dX12_now_189 : decode YX12_now.2.1 189 = .ok (.ireturn, 1) := by decide +kernel
theorem dX12_now_190 : decode YX12_now.2.1 190 = .ok (.aload_n 0, 1) := by decide +kernel
theorem dX12_now_191 : decode YX12_now.2.1 191 = .ok (.invokevirtual 289, 3) := by decide +kernel
theorem dX12_now_194 : decode YX12_now.2.1 194 = .ok (.ireturn, 1) := by decide +kernel
theorem dX12_now_195 : decode YX12_now.2.1 195 = .ok (.aload_n 0, 1) := by decide +kernel
theorem dX12_now_196 : decode YX12_now.2.1 196 = .ok (.getfield 33, 3) := by decide +kernel
theorem dX12_now_199 : decode YX12_now.2.1 199 = .ok (.bipush 90, 2) := by decide +kernel
theorem dX12_now_201 : decode YX12_now.2.1 201 = .ok (.iaload, 1) := by decide +kernel
theorem dX12_now_202 : decode YX12_now.2.1 202 = .ok (.ireturn, 1) := by decide +kernel
theorem dX12_now_203 : decode YX12_now.2.1 203 = .ok (.iconst (-1), 1) := by decide +kernel
theorem dX12_now_204 : decode YX12_now.2.1 204 = .ok (.ireturn, 1) := by decide +kernel
theorem dX12_octet_0 : decode YX12_octet.2.1 0 = .ok (.aload_n 0, 1) := by decide +kernel
theorem dX12_octet_1 : decode YX12_octet.2.1 1 = .ok (.getfield 14, 3) := by decide +kernel
theorem dX12_octet_4 : decode YX12_octet.2.1 4 = .ok (.iload_n 1, 1) := by decide +kernel
theorem dX12_octet_5 : decode YX12_octet.2.1 5 = .ok (.baload, 1) := by decide +kernel
theorem dX12_octet_6 : decode YX12_octet.2.1 6 = .ok (.sipush 255, 3) := by decide +kernel
theorem dX12_octet_9 : decode YX12_octet.2.1 9 = .ok (.iand, 1) := by decide +kernel
theorem dX12_octet_10 : decode YX12_octet.2.1 10 = .ok (.ireturn, 1) := by decide +kernel
theorem dX12_odds_0 : decode YX12_odds.2.1 0 = .ok (.aload_n 0, 1) := by decide +kernel
theorem dX12_odds_1 : decode YX12_odds.2.1 1 = .ok (.iconst 0, 1) := by decide +kernel
theorem dX12_odds_2 : decode YX12_odds.2.1 2 = .ok (.putfield 1, 3) := by decide +kernel
theorem dX12_odds_5 : decode YX12_odds.2.1 5 = .ok (.aload_n 0, 1) := by decide +kernel
theorem dX12_odds_6 : decode YX12_odds.2.1 6 = .ok (.iload_n 1, 1) := by decide +kernel
theorem dX12_odds_7 : decode YX12_odds.2.1 7 = .ok (.invokevirtual 270, 3) := by decide +kernel
theorem dX12_odds_10 : decode YX12_odds.2.1 10 = .ok (.ifCond .eq 13, 3) := by decide +kernel
theorem dX12_odds_13 : decode YX12_odds.2.1 13 = .ok (.iload_n 2, 1) := by decide +kernel
theorem dX12_odds_14 : decode YX12_odds.2.1 14 = .ok (.iconst 1, 1) := by decide +kernel
theorem dX12_odds_15 : decode YX12_odds.2.1 15 = .ok (.bipush 30, 2) := by decide +kernel
theorem dX12_odds_17 : decode YX12_odds.2.1 17 = .ok (.invokestatic 188, 3) := by decide +kernel
theorem dX12_odds_20 : decode YX12_odds.2.1 20 = .ok (.ifCond .ne 5, 3) := by decide +kernel
theorem dX12_odds_23 : decode YX12_odds.2.1 23 = .ok (.iconst (-1), 1) := by decide +kernel
theorem dX12_odds_24 : decode YX12_odds.2.1 24 = .ok (.ireturn, 1) := by decide +kernel
theorem dX12_odds_25 : decode YX12_odds.2.1 25 = .ok (.aload_n 0, 1) := by decide +kernel
theorem dX12_odds_26 : decode YX12_odds.2.1 26 = .ok (.invokevirtual 337, 3) := by decide +kernel
theorem dX12_odds_29 : decode YX12_odds.2.1 29 = .ok (.iconst 0, 1) := by decide +kernel
theorem dX12_odds_30 : decode YX12_odds.2.1 30 = .ok (.istore 4, 2) := by decide +kernel
theorem dX12_odds_32 : decode YX12_odds.2.1 32 = .ok (.iconst 0, 1) := by decide +kernel
theorem dX12_odds_33 : decode YX12_odds.2.1 33 = .ok (.istore 5, 2) := by decide +kernel
theorem dX12_odds_35 : decode YX12_odds.2.1 35 = .ok (.iload 5, 2) := by decide +kernel
theorem dX12_odds_37 : decode YX12_odds.2.1 37 = .ok (.iload_n 2, 1) := by decide +kernel
theorem dX12_odds_38 : decode YX12_odds.2.1 38 = .ok (.if_icmp .ge 42, 3) := by decide +kernel
theorem dX12_odds_41 : decode YX12_odds.2.1 41 = .ok (.aload_n 0, 1) := by decide +kernel
theorem dX12_odds_42 : decode YX12_odds.2.1 42 = .ok (.bipush 10, 2) := by decide +kernel
theorem dX12_odds_44 : decode YX12_odds.2.1 44 = .ok (.iload_n 3, 1) := by decide +kernel
theorem dX12_odds_45 : decode YX12_odds.2.1 45 = .ok (.iload 5, 2) := by decide +kernel
theorem dX12_odds_47 : decode YX12_odds.2.1 47 = .ok (.iadd, 1) := by decide +kernel
theorem dX12_odds_48 : decode YX12_odds.2.1 48 = .ok (.invokevirtual 413, 3) := by decide +kernel
theorem dX12_odds_51 : decode YX12_odds.2.1 51 = .ok (.pop, 1) := by decide +kernel
theorem dX12_odds_52 : decode YX12_odds.2.1 52 = .ok (.iload 4, 2) := by decide +kernel
theorem dX12_odds_54 : decode YX12_odds.2.1 54 = .ok (.aload_n 0, 1) := by decide +kernel
theorem dX12_odds_55 : decode YX12_odds.2.1 55 = .ok (.iload_n 1, 1) := by decide +kernel
theorem dX12_odds_56 : decode YX12_odds.2.1 56 = .ok (.invokevirtual 277, 3) := by decide +kernel
theorem dX12_odds_59 : decode YX12_odds.2.1 59 = .ok (.ifCond .eq 7, 3) := by decide +kernel
theorem dX12_odds_62 : decode YX12_odds.2.1 62 = .ok (.iconst 1, 1) := by decide +kernel
theorem dX12_odds_63 : decode YX12_odds.2.1 63 = .ok (.goto 4, 3) := by decide +kernel
theorem dX12_odds_66 : decode YX12_odds.2.1 66 = .ok (.iconst 0, 1) := by decide +kernel
theorem dX12_odds_67 : decode YX12_odds.2.1 67 = .ok (.iadd, 1) := by decide +kernel
theorem dX12_odds_68 : decode YX12_odds.2.1 68 = .ok (.istore 4, 2) := by decide +kernel
theorem dX12_odds_70 : decode YX12_odds.2.1 70 = .ok (.aload_n 0, 1) := by decide +kernel
theorem dX12_odds_71 : decode YX12_odds.2.1 71 = .ok (.invokevirtual 340, 3) := by decide +kernel
theorem dX12_odds_74 : decode YX12_odds.2.1 74 = .ok (.iinc 5 1, 3) := by decide +kernel
theorem dX12_odds_77 : decode YX12_odds.2.1 77 = .ok (.goto (-42), 3) := by decide +kernel
theorem dX12_odds_80 : decode YX12_odds.2.1 80 = .ok (.iload 4, 2) := by decide +kernel
theorem dX12_odds_82 : decode YX12_odds.2.1 82 = .ok (.ireturn, 1) := by decide +kernel
theorem dX12_operand_0 : decode YX12_operand.2.1 0 = .ok (.aload_n 0, 1) := by decide +kernel
theorem dX12_operand_1 : decode YX12_operand.2.1 1 = .ok (.ldc2_w 123, 3) := by decide +kernel
theorem dX12_operand_4 : decode YX12_operand.2.1 4 = .ok (.invokevirtual 210, 3) := by decide +kernel
theorem dX12_operand_7 : decode YX12_operand.2.1 7 = .ok (.istore_n 1, 1) := by decide +kernel
theorem dX12_operand_8 : decode YX12_operand.2.1 8 = .ok (.aload_n 0, 1) := by decide +kernel
theorem dX12_operand_9 : decode YX12_operand.2.1 9 = .ok (.bipush 40, 2) := by decide +kernel
theorem dX12_operand_11 : decode YX12_operand.2.1 11 = .ok (.invokevirtual 179, 3) := by decide +kernel
theorem dX12_operand_14 : decode YX12_operand.2.1 14 = .ok (.istore_n 2, 1) := by decide +kernel
theorem dX12_operand_15 : decode YX12_operand.2.1 15 = .ok (.aload_n 0, 1) := by decide +kernel
theorem dX12_operand_16 : decode YX12_operand.2.1 16 = .ok (.invokevirtual 441, 3) := by decide +kernel
theorem dX12_operand_19 : decode YX12_operand.2.1 19 = .ok (.istore_n 3, 1) := by decide +kernel
theorem dX12_operand_20 : decode YX12_operand.2.1 20 = .ok (.iload_n 1, 1) := by decide +kernel
theorem dX12_operand_21 : decode YX12_operand.2.1 21 = .ok (.ifCond .ne 17, 3) := by decide +kernel
theorem dX12_operand_24 : decode YX12_operand.2.1 24 = .ok (.iload_n 2, 1) := by decide +kernel
theorem dX12_operand_25 : decode YX12_operand.2.1 25 = .ok (.ifCond .ne 13, 3) := by decide +kernel
theorem dX12_operand_28 : decode YX12_operand.2.1 28 = .ok (.iload_n 3, 1) := by decide +kernel
theorem dX12_operand_29 : decode YX12_operand.2.1 29 = .ok (.ifCond .ge 9, 3) := by decide +kernel
theorem dX12_operand_32 : decode YX12_operand.2.1 32 = .ok (.aload_n 0, 1) := by decide +kernel
theorem dX12_operand_33 : decode YX12_operand.2.1 33 = .ok (.iconst 1, 1) := by decide +kernel
theorem dX12_operand_34 : decode YX12_operand.2.1 34 = .ok (.invokevirtual 182, 3) := by decide +kernel
theorem dX12_operand_37 : decode YX12_operand.2.1 37 = .ok (.ireturn, 1) := by decide +kernel
theorem dX12_operand_38 : decode YX12_operand.2.1 38 = .ok (.aload_n 0, 1) := by decide +kernel
theorem dX12_operand_39 : decode YX12_operand.2.1 39 = .ok (.getfield 444, 3) := by decide +kernel
theorem dX12_operand_42 : decode YX12_operand.2.1 42 = .ok (.bipush 20, 2) := by decide +kernel
theorem dX12_operand_44 : decode YX12_operand.2.1 44 = .ok (.if_icmp .eq 12, 3) := by decide +kernel
theorem dX12_operand_47 : decode YX12_operand.2.1 47 = .ok (.aload_n 0, 1) := by decide +kernel
theorem dX12_operand_48 : decode YX12_operand.2.1 48 = .ok (.getfield 438, 3) := by decide +kernel
theorem dX12_operand_51 : decode YX12_operand.2.1 51 = .ok (.bipush 8, 2) := by decide +kernel
theorem dX12_operand_53 : decode YX12_operand.2.1 53 = .ok (.if_icmp .le 9, 3) := by decide +kernel
theorem dX12_operand_56 : decode YX12_operand.2.1 56 = .ok (.aload_n 0, 1) := by decide +kernel
theorem dX12_operand_57 : decode YX12_operand.2.1 57 = .ok (.iconst 4, 1) := by decide +kernel
theorem dX12_operand_58 : decode YX12_operand.2.1 58 = .ok (.invokevirtual 182, 3) := by decide +kernel
theorem dX12_operand_61 : decode YX12_operand.2.1 61 = .ok (.ireturn, 1) := by decide +kernel
theorem dX12_operand_62 : decode YX12_operand.2.1 62 = .ok (.aload_n 0, 1) := by decide +kernel
theorem dX12_operand_63 : decode YX12_operand.2.1 63 = .ok (.dup, 1) := by decide +kernel
theorem dX12_operand_64 : decode YX12_operand.2.1 64 = .ok (.getfield 444, 3) := by decide +kernel
theorem dX12_operand_67 : decode YX12_operand.2.1 67 = .ok (.iconst 1, 1) := by decide +kernel
theorem dX12_operand_68 : decode YX12_operand.2.1 68 = .ok (.iadd, 1) := by decide +kernel
theorem dX12_operand_69 : decode YX12_operand.2.1 69 = .ok (.putfield 444, 3) := by decide +kernel
theorem dX12_operand_72 : decode YX12_operand.2.1 72 = .ok (.aload_n 0, 1) := by decide +kernel
theorem dX12_operand_73 : decode YX12_operand.2.1 73 = .ok (.invokevirtual 185, 3) := by decide +kernel
theorem dX12_operand_76 : decode YX12_operand.2.1 76 = .ok (.iload_n 1, 1) := by decide +kernel
theorem dX12_operand_77 : decode YX12_operand.2.1 77 = .ok (.ifCond .ne 7, 3) := by decide +kernel
theorem dX12_operand_80 : decode YX12_operand.2.1 80 = .ok (.iload_n 2, 1) := by decide +kernel
theorem dX12_operand_81 : decode YX12_operand.2.1 81 = .ok (.ifCond .eq 45, 3) := by decide +kernel
theorem dX12_operand_84 : decode YX12_operand.2.1 84 = .ok (.aload_n 0, 1) := by decide +kernel
theorem dX12_operand_85 : decode YX12_operand.2.1 85 = .ok (.getfield 83, 3) := by decide +kernel
theorem dX12_operand_88 : decode YX12_operand.2.1 88 = .ok (.aload_n 0, 1) := by decide +kernel
theorem dX12_operand_89 : decode YX12_operand.2.1 89 = .ok (.getfield 432, 3) := by decide +kernel
theorem dX12_operand_92 : decode YX12_operand.2.1 92 = .ok (.iload_n 1, 1) := by decide +kernel
theorem dX12_operand_93 : decode YX12_operand.2.1 93 = .ok (.ifCond .eq 8, 3) := by decide +kernel
theorem dX12_operand_96 : decode YX12_operand.2.1 96 = .ok (.bipush 20, 2) := by decide +kernel
theorem dX12_operand_98 : decode YX12_operand.2.1 98 = .ok (.goto 5, 3) := by decide +kernel
theorem dX12_operand_101 : decode YX12_operand.2.1 101 = .ok (.bipush 23, 2) := by decide +kernel
theorem dX12_operand_103 : decode YX12_operand.2.1 103 = .ok (.iastore, 1) := by decide +kernel
theorem dX12_operand_104 : decode YX12_operand.2.1 104 = .ok (.aload_n 0, 1) := by decide +kernel
theorem dX12_operand_105 : decode YX12_operand.2.1 105 = .ok (.dup, 1) := by decide +kernel
theorem dX12_operand_106 : decode YX12_operand.2.1 106 = .ok (.getfield 432, 3) := by decide +kernel
theorem dX12_operand_109 : decode YX12_operand.2.1 109 = .ok (.iconst 1, 1) := by decide +kernel
theorem dX12_operand_110 : decode YX12_operand.2.1 110 = .ok (.iadd, 1) := by decide +kernel
theorem dX12_operand_111 : decode YX12_operand.2.1 111 = .ok (.putfield 432, 3) := by decide +kernel
theorem dX12_operand_114 : decode YX12_operand.2.1 114 = .ok (.aload_n 0, 1) := by decide +kernel
theorem dX12_operand_115 : decode YX12_operand.2.1 115 = .ok (.dup, 1) := by decide +kernel
theorem dX12_operand_116 : decode YX12_operand.2.1 116 = .ok (.getfield 438, 3) := by decide +kernel
theorem dX12_operand_119 : decode YX12_operand.2.1 119 = .ok (.iconst 1, 1) := by decide +kernel
theorem dX12_operand_120 : decode YX12_operand.2.1 120 = .ok (.iadd, 1) := by decide +kernel
theorem dX12_operand_121 : decode YX12_operand.2.1 121 = .ok (.putfield 438, 3) := by decide +kernel
theorem dX12_operand_124 : decode YX12_operand.2.1 124 = .ok (.iconst 1, 1) := by decide +kernel
theorem dX12_operand_125 : decode YX12_operand.2.1 125 = .ok (.ireturn, 1) := by decide +kernel
theorem dX12_operand_126 : decode YX12_operand.2.1 126 = .ok (.aload_n 0, 1) := by decide +kernel
theorem dX12_operand_127 : decode YX12_operand.2.1 127 = .ok (.iconst 1, 1) := by decide +kernel
theorem dX12_operand_128 : decode YX12_operand.2.1 128 = .ok (.putfield 447, 3) := by decide +kernel
theorem dX12_operand_131 : decode YX12_operand.2.1 131 = .ok (.iload_n 3, 1) := by decide +kernel
theorem dX12_operand_132 : decode YX12_operand.2.1 132 = .ok (.iconst 3, 1) := by decide +kernel
theorem dX12_operand_133 : decode YX12_operand.2.1 133 = .ok (.if_icmp .ge 12, 3) := by decide +kernel
theorem dX12_operand_136 : decode YX12_operand.2.1 136 = .ok (.aload_n 0, 1) := by decide +kernel
theorem dX12_operand_137 : decode YX12_operand.2.1 137 = .ok (.iload_n 3, 1) := by decide +kernel
theorem dX12_operand_138 : decode YX12_operand.2.1 138 = .ok (.iconst 0, 1) := by decide +kernel
theorem dX12_operand_139 : decode YX12_operand.2.1 139 = .ok (.iconst 0, 1) := by decide +kernel
theorem dX12_operand_140 : decode YX12_operand.2.1 140 = .ok (.invokevirtual 435, 3) := by decide +kernel
theorem dX12_operand_143 : decode YX12_operand.2.1 143 = .ok (.iconst 1, 1) := by decide +kernel
theorem dX12_operand_144 : decode YX12_operand.2.1 144 = .ok (.ireturn, 1) := by decide +kernel
theorem dX12_operand_145 : decode YX12_operand.2.1 145 = .ok (.iload_n 3, 1) := by decide +kernel
theorem dX12_operand_146 : decode YX12_operand.2.1 146 = .ok (.iconst 5, 1) := by decide +kernel
theorem dX12_operand_147 : decode YX12_operand.2.1 147 = .ok (.if_icmp .ge 59, 3) := by decide +kernel
theorem dX12_operand_150 : decode YX12_operand.2.1 150 = .ok (.iload_n 3, 1) := by decide +kernel
theorem dX12_operand_151 : decode YX12_operand.2.1 151 = .ok (.iconst 3, 1) := by decide +kernel
theorem dX12_operand_152 : decode YX12_operand.2.1 152 = .ok (.if_icmp .ne 17, 3) := by decide +kernel
theorem dX12_operand_155 : decode YX12_operand.2.1 155 = .ok (.aload_n 0, 1) := by decide +kernel
theorem dX12_operand_156 : decode YX12_operand.2.1 156 = .ok (.iconst 0, 1) := by decide +kernel
theorem dX12_operand_157 : decode YX12_operand.2.1 157 = .ok (.aload_n 0, 1) := by decide +kernel
theorem dX12_operand_158 : decode YX12_operand.2.1 158 = .ok (.getfield 33, 3) := by decide +kernel
theorem dX12_operand_161 : decode YX12_operand.2.1 161 = .ok (.iconst 0, 1) := by decide +kernel
theorem dX12_operand_162 : decode YX12_operand.2.1 162 = .ok (.iaload, 1) := by decide +kernel
theorem dX12_operand_163 : decode YX12_operand.2.1 163 = .ok (.invokevirtual 207, 3) := by decide +kernel
theorem dX12_operand_166 : decode YX12_operand.2.1 166 = .ok (.goto 15, 3) := by decide +kernel
theorem dX12_operand_169 : decode YX12_operand.2.1 169 = .ok (.aload_n 0, 1) := by decide +kernel
theorem dX12_operand_170 : decode YX12_operand.2.1 170 = .ok (.bipush 8, 2) := by decide +kernel
theorem dX12_operand_172 : decode YX12_operand.2.1 172 = .ok (.aload_n 0, 1) := by decide +kernel
theorem dX12_operand_173 : decode YX12_operand.2.1 173 = .ok (.getfield 33, 3) := by decide +kernel
theorem dX12_operand_176 : decode YX12_operand.2.1 176 = .ok (.iconst 2, 1) := by decide +kernel
theorem dX12_operand_177 : decode YX12_operand.2.1 177 = .ok (.iaload, 1) := by decide +kernel
theorem dX12_operand_178 : decode YX12_operand.2.1 178 = .ok (.invokevirtual 207, 3) := by decide +kernel
theorem dX12_operand_181 : decode YX12_operand.2.1 181 = .ok (.istore 4, 2) := by decide +kernel
theorem dX12_operand_183 : decode YX12_operand.2.1 183 = .ok (.iload 4, 2) := by decide +kernel
theorem dX12_operand_185 : decode YX12_operand.2.1 185 = .ok (.ifCond .ne 5, 3) := by decide +kernel
theorem dX12_operand_188 : decode YX12_operand.2.1 188 = .ok (.iconst 0, 1) := by decide +kernel
theorem dX12_operand_189 : decode YX12_operand.2.1 189 = .ok (.ireturn, 1) := by decide +kernel
theorem dX12_operand_190 : decode YX12_operand.2.1 190 = .ok (.aload_n 0, 1) := by decide +kernel
theorem dX12_operand_191 : decode YX12_operand.2.1 191 = .ok (.iload_n 3, 1) := by decide +kernel
theorem dX12_operand_192 : decode YX12_operand.2.1 192 = .ok (.iconst 0, 1) := by decide +kernel
theorem dX12_operand_193 : decode YX12_operand.2.1 193 = .ok (.aload_n 0, 1) := by decide +kernel
theorem dX12_operand_194 : decode YX12_operand.2.1 194 = .ok (.getfield 192, 3) := by decide +kernel
theorem dX12_operand_197 : decode YX12_operand.2.1 197 = .ok (.invokevirtual 435, 3) := by decide +kernel
theorem dX12_operand_200 : decode YX12_operand.2.1 200 = .ok (.aload_n 0, 1) := by decide +kernel
theorem dX12_operand_201 : decode YX12_operand.2.1 201 = .ok (.invokevirtual 185, 3) := by decide +kernel
theorem dX12_operand_204 : decode YX12_operand.2.1 204 = .ok (.iconst 1, 1) := by decide +kernel
theorem dX12_operand_205 : decode YX12_operand.2.1 205 = .ok (.ireturn, 1) := by decide +kernel
theorem dX12_operand_206 : decode YX12_operand.2.1 206 = .ok (.aload_n 0, 1) := by decide +kernel
theorem dX12_operand_207 : decode YX12_operand.2.1 207 = .ok (.getfield 156, 3) := by decide +kernel
theorem dX12_operand_210 : decode YX12_operand.2.1 210 = .ok (.iconst 3, 1) := by decide +kernel
theorem dX12_operand_211 : decode YX12_operand.2.1 211 = .ok (.if_icmp .ne 21, 3) := by decide +kernel
theorem dX12_operand_214 : decode YX12_operand.2.1 214 = .ok (.aload_n 0, 1) := by decide +kernel
theorem dX12_operand_215 : decode YX12_operand.2.1 215 = .ok (.getfield 166, 3) := by decide +kernel
theorem dX12_operand_218 : decode YX12_operand.2.1 218 = .ok (.bipush 60, 2) := by decide +kernel
theorem dX12_operand_220 : decode YX12_operand.2.1 220 = .ok (.if_icmp .lt 12, 3) := by decide +kernel
theorem dX12_operand_223 : decode YX12_operand.2.1 223 = .ok (.aload_n 0, 1) := by decide +kernel
theorem dX12_operand_224 : decode YX12_operand.2.1 224 = .ok (.getfield 166, 3) := by decide +kernel
theorem dX12_operand_227 : decode YX12_operand.2.1 227 = .ok (.bipush 62, 2) := by decide +kernel
theorem dX12_operand_229 : decode YX12_operand.2.1 229 = .ok (.if_icmp .le 9, 3) := by decide +kernel
theorem dX12_operand_232 : decode YX12_operand.2.1 232 = .ok (.aload_n 0, 1) := by decide +kernel
theorem dX12_operand_233 : decode YX12_operand.2.1 233 = .ok (.iconst 1, 1) := by decide +kernel
theorem dX12_operand_234 : decode YX12_operand.2.1 234 = .ok (.invokevirtual 182, 3) := by decide +kernel
theorem dX12_operand_237 : decode YX12_operand.2.1 237 = .ok (.ireturn, 1) := by decide +kernel
theorem dX12_operand_238 : decode YX12_operand.2.1 238 = .ok (.aload_n 0, 1) := by decide +kernel
theorem dX12_operand_239 : decode YX12_operand.2.1 239 = .ok (.getfield 166, 3) := by decide +kernel
theorem dX12_operand_242 : decode YX12_operand.2.1 242 = .ok (.istore 4, 2) := by decide +kernel
theorem dX12_operand_244 : decode YX12_operand.2.1 244 = .ok (.aload_n 0, 1) := by decide +kernel
theorem dX12_operand_245 : decode YX12_operand.2.1 245 = .ok (.invokevirtual 185, 3) := by decide +kernel
theorem dX12_operand_248 : decode YX12_operand.2.1 248 = .ok (.aload_n 0, 1) := by decide +kernel
theorem dX12_operand_249 : decode YX12_operand.2.1 249 = .ok (.getfield 156, 3) := by decide +kernel
theorem dX12_operand_252 : decode YX12_operand.2.1 252 = .ok (.iconst 2, 1) := by decide +kernel
theorem dX12_operand_253 : decode YX12_operand.2.1 253 = .ok (.if_icmp .eq 9, 3) := by decide +kernel
theorem dX12_operand_256 : decode YX12_operand.2.1 256 = .ok (.aload_n 0, 1) := by decide +kernel
theorem dX12_operand_257 : decode YX12_operand.2.1 257 = .ok (.iconst 1, 1) := by decide +kernel
theorem dX12_operand_258 : decode YX12_operand.2.1 258 = .ok (.invokevirtual 182, 3) := by decide +kernel
theorem dX12_operand_261 : decode YX12_operand.2.1 261 = .ok (.ireturn, 1) := by decide +kernel
theorem dX12_operand_262 : decode YX12_operand.2.1 262 = .ok (.aload_n 0, 1) := by decide +kernel
theorem dX12_operand_263 : decode YX12_operand.2.1 263 = .ok (.iload_n 3, 1) := by decide +kernel
theorem dX12_operand_264 : decode YX12_operand.2.1 264 = .ok (.iload 4, 2) := by decide +kernel
theorem dX12_operand_266 : decode YX12_operand.2.1 266 = .ok (.aload_n 0, 1) := by decide +kernel
theorem dX12_operand_267 : decode YX12_operand.2.1 267 = .ok (.getfield 166, 3) := by decide +kernel
theorem dX12_operand_270 : decode YX12_operand.2.1 270 = .ok (.invokevirtual 435, 3) := by decide +kernel
theorem dX12_operand_273 : decode YX12_operand.2.1 273 = .ok (.aload_n 0, 1) := by decide +kernel
theorem dX12_operand_274 : decode YX12_operand.2.1 274 = .ok (.invokevirtual 185, 3) := by decide +kernel
theorem dX12_operand_277 : decode YX12_operand.2.1 277 = .ok (.iconst 1, 1) := by decide +kernel
theorem dX12_operand_278 : decode YX12_operand.2.1 278 = .ok (.ireturn, 1) := by decide +kernel
theorem dX12_parts_0 : decode YX12_parts.2.1 0 = .ok (.aload_n 0, 1) := by decide +kernel
theorem dX12_parts_1 : decode YX12_parts.2.1 1 = .ok (.getfield 33, 3) := by decide +kernel
theorem dX12_parts_4 : decode YX12_parts.2.1 4 = .ok (.sipush 133, 3) := by decide +kernel
theorem dX12_parts_7 : decode YX12_parts.2.1 7 = .ok (.iload_n 1, 1) := by decide +kernel
theorem dX12_parts_8 : decode YX12_parts.2.1 8 = .ok (.iadd, 1) := by decide +kernel
theorem dX12_parts_9 : decode YX12_parts.2.1 9 = .ok (.iconst 0, 1) := by decide +kernel
theorem dX12_parts_10 : decode YX12_parts.2.1 10 = .ok (.iastore, 1) := by decide +kernel
theorem dX12_parts_11 : decode YX12_parts.2.1 11 = .ok (.aload_n 0, 1) := by decide +kernel
theorem dX12_parts_12 : decode YX12_parts.2.1 12 = .ok (.getfield 33, 3) := by decide +kernel
theorem dX12_parts_15 : decode YX12_parts.2.1 15 = .ok (.sipush 139, 3) := by decide +kernel
theorem dX12_parts_18 : decode YX12_parts.2.1 18 = .ok (.iload_n 1, 1) := by decide +kernel
theorem dX12_parts_19 : decode YX12_parts.2.1 19 = .ok (.iadd, 1) := by decide +kernel
theorem dX12_parts_20 : decode YX12_parts.2.1 20 = .ok (.iconst 0, 1) := by decide +kernel
theorem dX12_parts_21 : decode YX12_parts.2.1 21 = .ok (.iastore, 1) := by decide +kernel
theorem dX12_parts_22 : decode YX12_parts.2.1 22 = .ok (.return_, 1) := by decide +kernel
theorem dX12_path_0 : decode YX12_path.2.1 0 = .ok (.aload_n 0, 1) := by decide +kernel
theorem dX12_path_1 : decode YX12_path.2.1 1 = .ok (.iconst 0, 1) := by decide +kernel
theorem dX12_path_2 : decode YX12_path.2.1 2 = .ok (.putfield 1, 3) := by decide +kernel
theorem dX12_path_5 : decode YX12_path.2.1 5 = .ok (.aload_n 0, 1) := by decide +kernel
theorem dX12_path_6 : decode YX12_path.2.1 6 = .ok (.iload_n 1, 1) := by decide +kernel
theorem dX12_path_7 : decode YX12_path.2.1 7 = .ok (.invokevirtual 270, 3) := by decide +kernel
theorem dX12_path_10 : decode YX12_path.2.1 10 = .ok (.ifCond .eq 36, 3) := by decide +kernel
theorem dX12_path_13 : decode YX12_path.2.1 13 = .ok (.aload_n 0, 1) := by decide +kernel
theorem dX12_path_14 : decode YX12_path.2.1 14 = .ok (.iload_n 2, 1) := by decide +kernel
theorem dX12_path_15 : decode YX12_path.2.1 15 = .ok (.invokevirtual 283, 3) := by decide +kernel
theorem dX12_path_18 : decode YX12_path.2.1 18 = .ok (.ifCond .eq 28, 3) := by decide +kernel
theorem dX12_path_21 : decode YX12_path.2.1 21 = .ok (.aload_n 0, 1) := by decide +kernel
theorem dX12_path_22 : decode YX12_path.2.1 22 = .ok (.getfield 50, 3) := by decide +kernel
theorem dX12_path_25 : decode YX12_path.2.1 25 = .ok (.bipush 8, 2) := by decide +kernel
theorem dX12_path_27 : decode YX12_path.2.1 27 = .ok (.aload_n 0, 1) := by decide +kernel
theorem dX12_path_28 : decode YX12_path.2.1 28 = .ok (.getfield 33, 3) := by decide +kernel
theorem dX12_path_31 : decode YX12_path.2.1 31 = .ok (.bipush 91, 2) := by decide +kernel
theorem dX12_path_33 : decode YX12_path.2.1 33 = .ok (.iload_n 1, 1) := by decide +kernel
theorem dX12_path_34 : decode YX12_path.2.1 34 = .ok (.iadd, 1) := by decide +kernel
theorem dX12_path_35 : decode YX12_path.2.1 35 = .ok (.iaload, 1) := by decide +kernel
theorem dX12_path_36 : decode YX12_path.2.1 36 = .ok (.imul, 1) := by decide +kernel
theorem dX12_path_37 : decode YX12_path.2.1 37 = .ok (.iload_n 2, 1) := by decide +kernel
theorem dX12_path_38 : decode YX12_path.2.1 38 = .ok (.iadd, 1) := by decide +kernel
theorem dX12_path_39 : decode YX12_path.2.1 39 = .ok (.iaload, 1) := by decide +kernel
theorem dX12_path_40 : decode YX12_path.2.1 40 = .ok (.ldc_w 262, 3) := by decide +kernel
theorem dX12_path_43 : decode YX12_path.2.1 43 = .ok (.if_icmp .lt 5, 3) := by decide +kernel
theorem dX12_path_46 : decode YX12_path.2.1 46 = .ok (.iconst (-1), 1) := by decide +kernel
theorem dX12_path_47 : decode YX12_path.2.1 47 = .ok (.ireturn, 1) := by decide +kernel
theorem dX12_path_48 : decode YX12_path.2.1 48 = .ok (.aload_n 0, 1) := by decide +kernel
theorem dX12_path_49 : decode YX12_path.2.1 49 = .ok (.getfield 33, 3) := by decide +kernel
theorem dX12_path_52 : decode YX12_path.2.1 52 = .ok (.bipush 91, 2) := by decide +kernel
theorem dX12_path_54 : decode YX12_path.2.1 54 = .ok (.iload_n 1, 1) := by decide +kernel
theorem dX12_path_55 : decode YX12_path.2.1 55 = .ok (.iadd, 1) := by decide +kernel
theorem dX12_path_56 : decode YX12_path.2.1 56 = .ok (.iaload, 1) := by decide +kernel
theorem dX12_path_57 : decode YX12_path.2.1 57 = .ok (.istore_n 3, 1) := by decide +kernel
theorem dX12_path_58 : decode YX12_path.2.1 58 = .ok (.aload_n 0, 1) := by decide +kernel
theorem dX12_path_59 : decode YX12_path.2.1 59 = .ok (.aload_n 0, 1) := by decide +kernel
theorem dX12_path_60 : decode YX12_path.2.1 60 = .ok (.getfield 50, 3) := by decide +kernel
theorem dX12_path_63 : decode YX12_path.2.1 63 = .ok (.bipush 8, 2) := by decide +kernel
theorem dX12_path_65 : decode YX12_path.2.1 65 = .ok (.iload_n 3, 1) := by decide +kernel
theorem dX12_path_66 : decode YX12_path.2.1 66 = .ok (.imul, 1) := by decide +kernel
theorem dX12_path_67 : decode YX12_path.2.1 67 = .ok (.iload_n 2, 1) := by decide +kernel
theorem dX12_path_68 : decode YX12_path.2.1 68 = .ok (.iadd, 1) := by decide +kernel
theorem dX12_path_69 : decode YX12_path.2.1 69 = .ok (.iaload, 1) := by decide +kernel
theorem dX12_path_70 : decode YX12_path.2.1 70 = .ok (.putfield 65, 3) := by decide +kernel
theorem dX12_path_73 : decode YX12_path.2.1 73 = .ok (.iconst 0, 1) := by decide +kernel
theorem dX12_path_74 : decode YX12_path.2.1 74 = .ok (.istore 4, 2) := by decide +kernel
theorem dX12_path_76 : decode YX12_path.2.1 76 = .ok (.iload 4, 2) := by decide +kernel
theorem dX12_path_78 : decode YX12_path.2.1 78 = .ok (.aload_n 0, 1) := by decide +kernel
theorem dX12_path_79 : decode YX12_path.2.1 79 = .ok (.getfield 65, 3) := by decide +kernel
theorem dX12_path_82 : decode YX12_path.2.1 82 = .ok (.if_icmp .ge 24, 3) := by decide +kernel
theorem dX12_path_85 : decode YX12_path.2.1 85 = .ok (.aload_n 0, 1) := by decide +kernel
theorem dX12_path_86 : decode YX12_path.2.1 86 = .ok (.iload_n 3, 1) := by decide +kernel
theorem dX12_path_87 : decode YX12_path.2.1 87 = .ok (.iload_n 2, 1) := by decide +kernel
theorem dX12_path_88 : decode YX12_path.2.1 88 = .ok (.invokevirtual 292, 3) := by decide +kernel
theorem dX12_path_91 : decode YX12_path.2.1 91 = .ok (.istore_n 3, 1) := by decide +kernel
theorem dX12_path_92 : decode YX12_path.2.1 92 = .ok (.aload_n 0, 1) := by decide +kernel
theorem dX12_path_93 : decode YX12_path.2.1 93 = .ok (.getfield 62, 3) := by decide +kernel
theorem dX12_path_96 : decode YX12_path.2.1 96 = .ok (.iload 4, 2) := by decide +kernel
theorem dX12_path_98 : decode YX12_path.2.1 98 = .ok (.iload_n 3, 1) := by decide +kernel
theorem dX12_path_99 : decode YX12_path.2.1 99 = .ok (.iastore, 1) := by decide +kernel
theorem dX12_path_100 : decode YX12_path.2.1 100 = .ok (.iinc 4 1, 3) := by decide +kernel
theorem dX12_path_103 : decode YX12_path.2.1 103 = .ok (.goto (-27), 3) := by decide +kernel
theorem dX12_path_106 : decode YX12_path.2.1 106 = .ok (.aload_n 0, 1) := by decide +kernel
theorem dX12_path_107 : decode YX12_path.2.1 107 = .ok (.getfield 65, 3) := by decide +kernel
theorem dX12_path_110 : decode YX12_path.2.1 110 = .ok (.ireturn, 1) := by decide +kernel
theorem dX12_pathAt_0 : decode YX12_pathAt.2.1 0 = .ok (.aload_n 0, 1) := by decide +kernel
theorem dX12_pathAt_1 : decode YX12_pathAt.2.1 1 = .ok (.iconst 0, 1) := by decide +kernel
theorem dX12_pathAt_2 : decode YX12_pathAt.2.1 2 = .ok (.putfield 1, 3) := by decide +kernel
theorem dX12_pathAt_5 : decode YX12_pathAt.2.1 5 = .ok (.iload_n 1, 1) := by decide +kernel
theorem dX12_pathAt_6 : decode YX12_pathAt.2.1 6 = .ok (.iconst 0, 1) := by decide +kernel
theorem dX12_pathAt_7 : decode YX12_pathAt.2.1 7 = .ok (.aload_n 0, 1) := by decide +kernel
theorem dX12_pathAt_8 : decode YX12_pathAt.2.1 8 = .ok (.getfield 65, 3) := by decide +kernel
theorem dX12_pathAt_11 : decode YX12_pathAt.2.1 11 = .ok (.iconst 1, 1) := by decide +kernel
theorem dX12_pathAt_12 : decode YX12_pathAt.2.1 12 = .ok (.isub, 1) := by decide +kernel
theorem dX12_pathAt_13 : decode YX12_pathAt.2.1 13 = .ok (.invokestatic 188, 3) := by decide +kernel
theorem dX12_pathAt_16 : decode YX12_pathAt.2.1 16 = .ok (.ifCond .eq 12, 3) := by decide +kernel
theorem dX12_pathAt_19 : decode YX12_pathAt.2.1 19 = .ok (.aload_n 0, 1) := by decide +kernel
theorem dX12_pathAt_20 : decode YX12_pathAt.2.1 20 = .ok (.getfield 62, 3) := by decide +kernel
theorem dX12_pathAt_23 : decode YX12_pathAt.2.1 23 = .ok (.iload_n 1, 1) := by decide +kernel
theorem dX12_pathAt_24 : decode YX12_pathAt.2.1 24 = .ok (.iaload, 1) := by decide +kernel
theorem dX12_pathAt_25 : decode YX12_pathAt.2.1 25 = .ok (.goto 4, 3) := by decide +kernel
theorem dX12_pathAt_28 : decode YX12_pathAt.2.1 28 = .ok (.iconst (-1), 1) := by decide +kernel
theorem dX12_pathAt_29 : decode YX12_pathAt.2.1 29 = .ok (.ireturn, 1) := by decide +kernel
theorem dX12_peek_0 : decode YX12_peek.2.1 0 = .ok (.aload_n 0, 1) := by decide +kernel
theorem dX12_peek_1 : decode YX12_peek.2.1 1 = .ok (.getfield 21, 3) := by decide +kernel
theorem dX12_peek_4 : decode YX12_peek.2.1 4 = .ok (.aload_n 0, 1) := by decide +kernel
theorem dX12_peek_5 : decode YX12_peek.2.1 5 = .ok (.getfield 18, 3) := by decide +kernel
theorem dX12_peek_8 : decode YX12_peek.2.1 8 = .ok (.if_icmp .ge 19, 3) := by decide +kernel
theorem dX12_peek_11 : decode YX12_peek.2.1 11 = .ok (.aload_n 0, 1) := by decide +kernel
theorem dX12_peek_12 : decode YX12_peek.2.1 12 = .ok (.getfield 14, 3) := by decide +kernel
theorem dX12_peek_15 : decode YX12_peek.2.1 15 = .ok (.aload_n 0, 1) := by decide +kernel
theorem dX12_peek_16 : decode YX12_peek.2.1 16 = .ok (.getfield 21, 3) := by decide +kernel
theorem dX12_peek_19 : decode YX12_peek.2.1 19 = .ok (.baload, 1) := by decide +kernel
theorem dX12_peek_20 : decode YX12_peek.2.1 20 = .ok (.sipush 255, 3) := by decide +kernel
theorem dX12_peek_23 : decode YX12_peek.2.1 23 = .ok (.iand, 1) := by decide +kernel
theorem dX12_peek_24 : decode YX12_peek.2.1 24 = .ok (.goto 4, 3) := by decide +kernel
theorem dX12_peek_27 : decode YX12_peek.2.1 27 = .ok (.iconst (-1), 1) := by decide +kernel
theorem dX12_peek_28 : decode YX12_peek.2.1 28 = .ok (.ireturn, 1) := by decide +kernel
theorem dX12_person_0 : decode YX12_person.2.1 0 = .ok (.aload_n 0, 1) := by decide +kernel
theorem dX12_person_1 : decode YX12_person.2.1 1 = .ok (.aload_n 0, 1) := by decide +kernel
theorem dX12_person_2 : decode YX12_person.2.1 2 = .ok (.iload_n 1, 1) := by decide +kernel
theorem dX12_person_3 : decode YX12_person.2.1 3 = .ok (.invokevirtual 270, 3) := by decide +kernel
theorem dX12_person_6 : decode YX12_person.2.1 6 = .ok (.ifCond .eq 13, 3) := by decide +kernel
theorem dX12_person_9 : decode YX12_person.2.1 9 = .ok (.iload_n 2, 1) := by decide +kernel
theorem dX12_person_10 : decode YX12_person.2.1 10 = .ok (.iconst 0, 1) := by decide +kernel
theorem dX12_person_11 : decode YX12_person.2.1 11 = .ok (.bipush 6, 2) := by decide +kernel
theorem dX12_person_13 : decode YX12_person.2.1 13 = .ok (.invokestatic 188, 3) := by decide +kernel
theorem dX12_person_16 : decode YX12_person.2.1 16 = .ok (.ifCond .ne 7, 3) := by decide +kernel
theorem dX12_person_19 : decode YX12_person.2.1 19 = .ok (.iconst 1, 1) := by decide +kernel
theorem dX12_person_20 : decode YX12_person.2.1 20 = .ok (.goto 4, 3) := by decide +kernel
theorem dX12_person_23 : decode YX12_person.2.1 23 = .ok (.iconst 0, 1) := by decide +kernel
theorem dX12_person_24 : decode YX12_person.2.1 24 = .ok (.invokevirtual 273, 3) := by decide +kernel
theorem dX12_person_27 : decode YX12_person.2.1 27 = .ok (.ifCond .eq 5, 3) := by decide +kernel
theorem dX12_person_30 : decode YX12_person.2.1 30 = .ok (.iconst 0, 1) := by decide +kernel
theorem dX12_person_31 : decode YX12_person.2.1 31 = .ok (.ireturn, 1) := by decide +kernel
theorem dX12_person_32 : decode YX12_person.2.1 32 = .ok (.iload_n 2, 1) := by decide +kernel
theorem dX12_person_33 : decode YX12_person.2.1 33 = .ok (.tableswitch 110 0 5 #[39, 49, 59, 65, 93, 104], 39) := by decide +kernel
theorem dX12_person_72 : decode YX12_person.2.1 72 = .ok (.aload_n 0, 1) := by decide +kernel
theorem dX12_person_73 : decode YX12_person.2.1 73 = .ok (.getfield 33, 3) := by decide +kernel
theorem dX12_person_76 : decode YX12_person.2.1 76 = .ok (.bipush 91, 2) := by decide +kernel
theorem dX12_person_78 : decode YX12_person.2.1 78 = .ok (.iload_n 1, 1) := by decide +kernel
theorem dX12_person_79 : decode YX12_person.2.1 79 = .ok (.iadd, 1) := by decide +kernel
theorem dX12_person_80 : decode YX12_person.2.1 80 = .ok (.iaload, 1) := by decide +kernel
theorem dX12_person_81 : decode YX12_person.2.1 81 = .ok (.ireturn, 1) := by decide +kernel
theorem dX12_person_82 : decode YX12_person.2.1 82 = .ok (.aload_n 0, 1) := by decide +kernel
theorem dX12_person_83 : decode YX12_person.2.1 83 = .ok (.getfield 33, 3) := by decide +kernel
theorem dX12_person_86 : decode YX12_person.2.1 86 = .ok (.bipush 127, 2) := by decide +kernel
theorem dX12_person_88 : decode YX12_person.2.1 88 = .ok (.iload_n 1, 1) := by decide +kernel
theorem dX12_person_89 : decode YX12_person.2.1 89 = .ok (.iadd, 1) := by decide +kernel
theorem dX12_person_90 : decode YX12_person.2.1 90 = .ok (.iaload, 1) := by decide +kernel
theorem dX12_person_91 : decode YX12_person.2.1 91 = .ok (.ireturn, 1) := by decide +kernel
theorem dX12_person_92 : decode YX12_person.2.1 92 = .ok (.aload_n 0, 1) := by decide +kernel
theorem dX12_person_93 : decode YX12_person.2.1 93 = .ok (.iload_n 1, 1) := by decide +kernel
theorem dX12_person_94 : decode YX12_person.2.1 94 = .ok (.invokevirtual 266, 3) := by decide +kernel
theorem dX12_person_97 : decode YX12_person.2.1 97 = .ok (.ireturn, 1) := by decide +kernel
theorem dX12_person_98 : decode YX12_person.2.1 98 = .ok (.aload_n 0, 1) := by decide +kernel
theorem dX12_person_99 : decode YX12_person.2.1 99 = .ok (.getfield 33, 3) := by decide +kernel
theorem dX12_person_102 : decode YX12_person.2.1 102 = .ok (.sipush 133, 3) := by decide +kernel
theorem dX12_person_105 : decode YX12_person.2.1 105 = .ok (.iload_n 1, 1) := by decide +kernel
theorem dX12_person_106 : decode YX12_person.2.1 106 = .ok (.iadd, 1) := by decide +kernel
theorem dX12_person_107 : decode YX12_person.2.1 107 = .ok (.iaload, 1) := by decide +kernel
theorem dX12_person_108 : decode YX12_person.2.1 108 = .ok (.ifCond .le 16, 3) := by decide +kernel
theorem dX12_person_111 : decode YX12_person.2.1 111 = .ok (.aload_n 0, 1) := by decide +kernel
theorem dX12_person_112 : decode YX12_person.2.1 112 = .ok (.getfield 33, 3) := by decide +kernel
theorem dX12_person_115 : decode YX12_person.2.1 115 = .ok (.sipush 139, 3) := by decide +kernel
theorem dX12_person_118 : decode YX12_person.2.1 118 = .ok (.iload_n 1, 1) := by decide +kernel
theorem dX12_person_119 : decode YX12_person.2.1 119 = .ok (.iadd, 1) := by decide +kernel
theorem dX12_person_120 : decode YX12_person.2.1 120 = .ok (.iaload, 1) := by decide +kernel
theorem dX12_person_121 : decode YX12_person.2.1 121 = .ok (.goto 4, 3) := by decide +kernel
theorem dX12_person_124 : decode YX12_person.2.1 124 = .ok (.iconst (-1), 1) := by decide +kernel
theorem dX12_person_125 : decode YX12_person.2.1 125 = .ok (.ireturn, 1) := by decide +kernel
theorem dX12_person_126 : decode YX12_person.2.1 126 = .ok (.aload_n 0, 1) := by decide +kernel
theorem dX12_person_127 : decode YX12_person.2.1 127 = .ok (.getfield 33, 3) := by decide +kernel
theorem dX12_person_130 : decode YX12_person.2.1 130 = .ok (.sipush 145, 3) := by decide +kernel
theorem dX12_person_133 : decode YX12_person.2.1 133 = .ok (.iload_n 1, 1) := by decide +kernel
theorem dX12_person_134 : decode YX12_person.2.1 134 = .ok (.iadd, 1) := by decide +kernel
theorem dX12_person_135 : decode YX12_person.2.1 135 = .ok (.iaload, 1) := by decide +kernel
theorem dX12_person_136 : decode YX12_person.2.1 136 = .ok (.ireturn, 1) := by decide +kernel
theorem dX12_person_137 : decode YX12_person.2.1 137 = .ok (.aload_n 0, 1) := by decide +kernel
theorem dX12_person_138 : decode YX12_person.2.1 138 = .ok (.iload_n 1, 1) := by decide +kernel
theorem dX12_person_139 : decode YX12_person.2.1 139 = .ok (.invokevirtual 277, 3) := by decide +kernel
theorem dX12_person_142 : decode YX12_person.2.1 142 = .ok (.ireturn, 1) := by decide +kernel
theorem dX12_person_143 : decode YX12_person.2.1 143 = .ok (.aload_n 0, 1) := by decide +kernel
theorem dX12_person_144 : decode YX12_person.2.1 144 = .ok (.iload_n 1, 1) := by decide +kernel
theorem dX12_person_145 : decode YX12_person.2.1 145 = .ok (.invokevirtual 280, 3) := by decide +kernel
theorem dX12_person_148 : decode YX12_person.2.1 148 = .ok (.ireturn, 1) := by decide +kernel
theorem dX12_printsInAll_0 : decode YX12_printsInAll.2.1 0 = .ok (.iconst 0, 1) := by decide +kernel
theorem dX12_printsInAll_1 : decode YX12_printsInAll.2.1 1 = .ok (.istore_n 1, 1) := by decide +kernel
theorem dX12_printsInAll_2 : decode YX12_printsInAll.2.1 2 = .ok (.iconst 0, 1) := by decide +kernel
theorem dX12_printsInAll_3 : decode YX12_printsInAll.2.1 3 = .ok (.istore_n 2, 1) := by decide +kernel
theorem dX12_printsInAll_4 : decode YX12_printsInAll.2.1 4 = .ok (.iload_n 2, 1) := by decide +kernel
theorem dX12_printsInAll_5 : decode YX12_printsInAll.2.1 5 = .ok (.bipush 8, 2) := by decide +kernel
theorem dX12_printsInAll_7 : decode YX12_printsInAll.2.1 7 = .ok (.if_icmp .ge 22, 3) := by decide +kernel
theorem dX12_printsInAll_10 : decode YX12_printsInAll.2.1 10 = .ok (.iload_n 1, 1) := by decide +kernel
theorem dX12_printsInAll_11 : decode YX12_printsInAll.2.1 11 = .ok (.aload_n 0, 1) := by decide +kernel
theorem dX12_printsInAll_12 : decode YX12_printsInAll.2.1 12 = .ok (.getfield 33, 3) := by decide +kernel
theorem dX12_printsInAll_15 : decode YX12_printsInAll.2.1 15 = .ok (.sipush 207, 3) := by decide +kernel
theorem dX12_printsInAll_18 : decode YX12_printsInAll.2.1 18 = .ok (.iload_n 2, 1) := by decide +kernel
theorem dX12_printsInAll_19 : decode YX12_printsInAll.2.1 19 = .ok (.iadd, 1) := by decide +kernel
theorem dX12_printsInAll_20 : decode YX12_printsInAll.2.1 20 = .ok (.iaload, 1) := by decide +kernel
theorem dX12_printsInAll_21 : decode YX12_printsInAll.2.1 21 = .ok (.iadd, 1) := by decide +kernel
theorem dX12_printsInAll_22 : decode YX12_printsInAll.2.1 22 = .ok (.istore_n 1, 1) := by decide +kernel
theorem dX12_printsInAll_23 : decode YX12_printsInAll.2.1 23 = .ok (.iinc 2 1, 3) := by decide +kernel
theorem dX12_printsInAll_26 : decode YX12_printsInAll.2.1 26 = .ok (.goto (-22), 3) := by decide +kernel
theorem dX12_printsInAll_29 : decode YX12_printsInAll.2.1 29 = .ok (.iload_n 1, 1) := by decide +kernel
theorem dX12_printsInAll_30 : decode YX12_printsInAll.2.1 30 = .ok (.ireturn, 1) := by decide +kernel
theorem dX12_proper_0 : decode YX12_proper.2.1 0 = .ok (.aload_n 0, 1) := by decide +kernel
theorem dX12_proper_1 : decode YX12_proper.2.1 1 = .ok (.iconst 0, 1) := by decide +kernel
theorem dX12_proper_2 : decode YX12_proper.2.1 2 = .ok (.putfield 1, 3) := by decide +kernel
theorem dX12_proper_5 : decode YX12_proper.2.1 5 = .ok (.aload_n 0, 1) := by decide +kernel
theorem dX12_proper_6 : decode YX12_proper.2.1 6 = .ok (.iload_n 1, 1) := by decide +kernel
theorem dX12_proper_7 : decode YX12_proper.2.1 7 = .ok (.invokevirtual 270, 3) := by decide +kernel
theorem dX12_proper_10 : decode YX12_proper.2.1 10 = .ok (.ifCond .eq 16, 3) := by decide +kernel
theorem dX12_proper_13 : decode YX12_proper.2.1 13 = .ok (.aload_n 0, 1) := by decide +kernel
theorem dX12_proper_14 : decode YX12_proper.2.1 14 = .ok (.iload_n 2, 1) := by decide +kernel
theorem dX12_proper_15 : decode YX12_proper.2.1 15 = .ok (.invokevirtual 270, 3) := by decide +kernel
theorem dX12_proper_18 : decode YX12_proper.2.1 18 = .ok (.ifCond .eq 8, 3) := by decide +kernel
theorem dX12_proper_21 : decode YX12_proper.2.1 21 = .ok (.iload_n 1, 1) := by decide +kernel
theorem dX12_proper_22 : decode YX12_proper.2.1 22 = .ok (.iload_n 2, 1) := by decide +kernel
theorem dX12_proper_23 : decode YX12_proper.2.1 23 = .ok (.if_icmp .ne 5, 3) := by decide +kernel
theorem dX12_proper_26 : decode YX12_proper.2.1 26 = .ok (.iconst (-1), 1) := by decide +kernel
theorem dX12_proper_27 : decode YX12_proper.2.1 27 = .ok (.ireturn, 1) := by decide +kernel
theorem dX12_proper_28 : decode YX12_proper.2.1 28 = .ok (.aload_n 0, 1) := by decide +kernel
theorem dX12_proper_29 : decode YX12_proper.2.1 29 = .ok (.invokevirtual 337, 3) := by decide +kernel
theorem dX12_proper_32 : decode YX12_proper.2.1 32 = .ok (.iconst (-1), 1) := by decide +kernel
theorem dX12_proper_33 : decode YX12_proper.2.1 33 = .ok (.istore_n 3, 1) := by decide +kernel
theorem dX12_proper_34 : decode YX12_proper.2.1 34 = .ok (.iconst 5, 1) := by decide +kernel
theorem dX12_proper_35 : decode YX12_proper.2.1 35 = .ok (.istore 4, 2) := by decide +kernel
theorem dX12_proper_37 : decode YX12_proper.2.1 37 = .ok (.iload 4, 2) := by decide +kernel
theorem dX12_proper_39 : decode YX12_proper.2.1 39 = .ok (.ifCond .le 23, 3) := by decide +kernel
theorem dX12_proper_42 : decode YX12_proper.2.1 42 = .ok (.aload_n 0, 1) := by decide +kernel
theorem dX12_proper_43 : decode YX12_proper.2.1 43 = .ok (.iload_n 1, 1) := by decide +kernel
theorem dX12_proper_44 : decode YX12_proper.2.1 44 = .ok (.iload_n 2, 1) := by decide +kernel
theorem dX12_proper_45 : decode YX12_proper.2.1 45 = .ok (.iload 4, 2) := by decide +kernel
theorem dX12_proper_47 : decode YX12_proper.2.1 47 = .ok (.invokevirtual 343, 3) := by decide +kernel
theorem dX12_proper_50 : decode YX12_proper.2.1 50 = .ok (.ifCond .eq 6, 3) := by decide +kernel
theorem dX12_proper_53 : decode YX12_proper.2.1 53 = .ok (.iload 4, 2) := by decide +kernel
theorem dX12_proper_55 : decode YX12_proper.2.1 55 = .ok (.istore_n 3, 1) := by decide +kernel
theorem dX12_proper_56 : decode YX12_proper.2.1 56 = .ok (.iinc 4 (-1), 3) := by decide +kernel
theorem dX12_proper_59 : decode YX12_proper.2.1 59 = .ok (.goto (-22), 3) := by decide +kernel
theorem dX12_proper_62 : decode YX12_proper.2.1 62 = .ok (.iload_n 3, 1) := by decide +kernel
theorem dX12_proper_63 : decode YX12_proper.2.1 63 = .ok (.ireturn, 1) := by decide +kernel
theorem dX12_puts_0 : decode YX12_puts.2.1 0 = .ok (.aload_n 0, 1) := by decide +kernel
theorem dX12_puts_1 : decode YX12_puts.2.1 1 = .ok (.iload_n 2, 1) := by decide +kernel
theorem dX12_puts_2 : decode YX12_puts.2.1 2 = .ok (.iload_n 3, 1) := by decide +kernel
theorem dX12_puts_3 : decode YX12_puts.2.1 3 = .ok (.invokevirtual 195, 3) := by decide +kernel
theorem dX12_puts_6 : decode YX12_puts.2.1 6 = .ok (.ifCond .ne 5, 3) := by decide +kernel
theorem dX12_puts_9 : decode YX12_puts.2.1 9 = .ok (.iconst 0, 1) := by decide +kernel
theorem dX12_puts_10 : decode YX12_puts.2.1 10 = .ok (.ireturn, 1) := by decide +kernel
theorem dX12_puts_11 : decode YX12_puts.2.1 11 = .ok (.aload_n 0, 1) := by decide +kernel
theorem dX12_puts_12 : decode YX12_puts.2.1 12 = .ok (.getfield 37, 3) := by decide +kernel
