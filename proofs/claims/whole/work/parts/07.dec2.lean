theorem dX12_puts_15 : decode YX12_puts.2.1 15 = .ok (.iload_n 1, 1) := by decide +kernel
theorem dX12_puts_16 : decode YX12_puts.2.1 16 = .ok (.aload_n 0, 1) := by decide +kernel
theorem dX12_puts_17 : decode YX12_puts.2.1 17 = .ok (.getfield 192, 3) := by decide +kernel
theorem dX12_puts_20 : decode YX12_puts.2.1 20 = .ok (.iastore, 1) := by decide +kernel
theorem dX12_puts_21 : decode YX12_puts.2.1 21 = .ok (.iconst 1, 1) := by decide +kernel
theorem dX12_puts_22 : decode YX12_puts.2.1 22 = .ok (.ireturn, 1) := by decide +kernel
theorem dX12_readCorner_0 : decode YX12_readCorner.2.1 0 = .ok (.aload_n 0, 1) := by decide +kernel
theorem dX12_readCorner_1 : decode YX12_readCorner.2.1 1 = .ok (.getfield 37, 3) := by decide +kernel
theorem dX12_readCorner_4 : decode YX12_readCorner.2.1 4 = .ok (.iconst 0, 1) := by decide +kernel
theorem dX12_readCorner_5 : decode YX12_readCorner.2.1 5 = .ok (.iaload, 1) := by decide +kernel
theorem dX12_readCorner_6 : decode YX12_readCorner.2.1 6 = .ok (.istore_n 1, 1) := by decide +kernel
theorem dX12_readCorner_7 : decode YX12_readCorner.2.1 7 = .ok (.iload_n 1, 1) := by decide +kernel
theorem dX12_readCorner_8 : decode YX12_readCorner.2.1 8 = .ok (.bipush 8, 2) := by decide +kernel
theorem dX12_readCorner_10 : decode YX12_readCorner.2.1 10 = .ok (.if_icmp .ne 9, 3) := by decide +kernel
theorem dX12_readCorner_13 : decode YX12_readCorner.2.1 13 = .ok (.aload_n 0, 1) := by decide +kernel
theorem dX12_readCorner_14 : decode YX12_readCorner.2.1 14 = .ok (.iconst 4, 1) := by decide +kernel
theorem dX12_readCorner_15 : decode YX12_readCorner.2.1 15 = .ok (.invokevirtual 182, 3) := by decide +kernel
theorem dX12_readCorner_18 : decode YX12_readCorner.2.1 18 = .ok (.ireturn, 1) := by decide +kernel
theorem dX12_readCorner_19 : decode YX12_readCorner.2.1 19 = .ok (.aload_n 0, 1) := by decide +kernel
theorem dX12_readCorner_20 : decode YX12_readCorner.2.1 20 = .ok (.invokevirtual 185, 3) := by decide +kernel
theorem dX12_readCorner_23 : decode YX12_readCorner.2.1 23 = .ok (.aload_n 0, 1) := by decide +kernel
theorem dX12_readCorner_24 : decode YX12_readCorner.2.1 24 = .ok (.bipush 14, 2) := by decide +kernel
theorem dX12_readCorner_26 : decode YX12_readCorner.2.1 26 = .ok (.iload_n 1, 1) := by decide +kernel
theorem dX12_readCorner_27 : decode YX12_readCorner.2.1 27 = .ok (.iadd, 1) := by decide +kernel
theorem dX12_readCorner_28 : decode YX12_readCorner.2.1 28 = .ok (.invokevirtual 229, 3) := by decide +kernel
theorem dX12_readCorner_31 : decode YX12_readCorner.2.1 31 = .ok (.ifCond .ne 5, 3) := by decide +kernel
theorem dX12_readCorner_34 : decode YX12_readCorner.2.1 34 = .ok (.iconst 0, 1) := by decide +kernel
theorem dX12_readCorner_35 : decode YX12_readCorner.2.1 35 = .ok (.ireturn, 1) := by decide +kernel
theorem dX12_readCorner_36 : decode YX12_readCorner.2.1 36 = .ok (.aload_n 0, 1) := by decide +kernel
theorem dX12_readCorner_37 : decode YX12_readCorner.2.1 37 = .ok (.getfield 37, 3) := by decide +kernel
theorem dX12_readCorner_40 : decode YX12_readCorner.2.1 40 = .ok (.iconst 0, 1) := by decide +kernel
theorem dX12_readCorner_41 : decode YX12_readCorner.2.1 41 = .ok (.dup2, 1) := by decide +kernel
theorem dX12_readCorner_42 : decode YX12_readCorner.2.1 42 = .ok (.iaload, 1) := by decide +kernel
theorem dX12_readCorner_43 : decode YX12_readCorner.2.1 43 = .ok (.iconst 1, 1) := by decide +kernel
theorem dX12_readCorner_44 : decode YX12_readCorner.2.1 44 = .ok (.iadd, 1) := by decide +kernel
theorem dX12_readCorner_45 : decode YX12_readCorner.2.1 45 = .ok (.iastore, 1) := by decide +kernel
theorem dX12_readCorner_46 : decode YX12_readCorner.2.1 46 = .ok (.iconst 1, 1) := by decide +kernel
theorem dX12_readCorner_47 : decode YX12_readCorner.2.1 47 = .ok (.ireturn, 1) := by decide +kernel
theorem dX12_readFollows_0 : decode YX12_readFollows.2.1 0 = .ok (.aload_n 0, 1) := by decide +kernel
theorem dX12_readFollows_1 : decode YX12_readFollows.2.1 1 = .ok (.invokevirtual 185, 3) := by decide +kernel
theorem dX12_readFollows_4 : decode YX12_readFollows.2.1 4 = .ok (.aload_n 0, 1) := by decide +kernel
theorem dX12_readFollows_5 : decode YX12_readFollows.2.1 5 = .ok (.bipush 22, 2) := by decide +kernel
theorem dX12_readFollows_7 : decode YX12_readFollows.2.1 7 = .ok (.aload_n 0, 1) := by decide +kernel
theorem dX12_readFollows_8 : decode YX12_readFollows.2.1 8 = .ok (.getfield 37, 3) := by decide +kernel
theorem dX12_readFollows_11 : decode YX12_readFollows.2.1 11 = .ok (.iconst 2, 1) := by decide +kernel
theorem dX12_readFollows_12 : decode YX12_readFollows.2.1 12 = .ok (.iaload, 1) := by decide +kernel
theorem dX12_readFollows_13 : decode YX12_readFollows.2.1 13 = .ok (.invokevirtual 207, 3) := by decide +kernel
theorem dX12_readFollows_16 : decode YX12_readFollows.2.1 16 = .ok (.ifCond .ne 5, 3) := by decide +kernel
theorem dX12_readFollows_19 : decode YX12_readFollows.2.1 19 = .ok (.iconst 0, 1) := by decide +kernel
theorem dX12_readFollows_20 : decode YX12_readFollows.2.1 20 = .ok (.ireturn, 1) := by decide +kernel
theorem dX12_readFollows_21 : decode YX12_readFollows.2.1 21 = .ok (.aload_n 0, 1) := by decide +kernel
theorem dX12_readFollows_22 : decode YX12_readFollows.2.1 22 = .ok (.getfield 192, 3) := by decide +kernel
theorem dX12_readFollows_25 : decode YX12_readFollows.2.1 25 = .ok (.istore_n 1, 1) := by decide +kernel
theorem dX12_readFollows_26 : decode YX12_readFollows.2.1 26 = .ok (.aload_n 0, 1) := by decide +kernel
theorem dX12_readFollows_27 : decode YX12_readFollows.2.1 27 = .ok (.getfield 37, 3) := by decide +kernel
theorem dX12_readFollows_30 : decode YX12_readFollows.2.1 30 = .ok (.bipush 23, 2) := by decide +kernel
theorem dX12_readFollows_32 : decode YX12_readFollows.2.1 32 = .ok (.iload_n 1, 1) := by decide +kernel
theorem dX12_readFollows_33 : decode YX12_readFollows.2.1 33 = .ok (.iadd, 1) := by decide +kernel
theorem dX12_readFollows_34 : decode YX12_readFollows.2.1 34 = .ok (.iaload, 1) := by decide +kernel
theorem dX12_readFollows_35 : decode YX12_readFollows.2.1 35 = .ok (.ifCond .gt 15, 3) := by decide +kernel
theorem dX12_readFollows_38 : decode YX12_readFollows.2.1 38 = .ok (.aload_n 0, 1) := by decide +kernel
theorem dX12_readFollows_39 : decode YX12_readFollows.2.1 39 = .ok (.getfield 37, 3) := by decide +kernel
theorem dX12_readFollows_42 : decode YX12_readFollows.2.1 42 = .ok (.bipush 35, 2) := by decide +kernel
theorem dX12_readFollows_44 : decode YX12_readFollows.2.1 44 = .ok (.iload_n 1, 1) := by decide +kernel
theorem dX12_readFollows_45 : decode YX12_readFollows.2.1 45 = .ok (.iadd, 1) := by decide +kernel
theorem dX12_readFollows_46 : decode YX12_readFollows.2.1 46 = .ok (.iaload, 1) := by decide +kernel
theorem dX12_readFollows_47 : decode YX12_readFollows.2.1 47 = .ok (.ifCond .le 9, 3) := by decide +kernel
theorem dX12_readFollows_50 : decode YX12_readFollows.2.1 50 = .ok (.aload_n 0, 1) := by decide +kernel
theorem dX12_readFollows_51 : decode YX12_readFollows.2.1 51 = .ok (.iconst 3, 1) := by decide +kernel
theorem dX12_readFollows_52 : decode YX12_readFollows.2.1 52 = .ok (.invokevirtual 182, 3) := by decide +kernel
theorem dX12_readFollows_55 : decode YX12_readFollows.2.1 55 = .ok (.ireturn, 1) := by decide +kernel
theorem dX12_readFollows_56 : decode YX12_readFollows.2.1 56 = .ok (.aload_n 0, 1) := by decide +kernel
theorem dX12_readFollows_57 : decode YX12_readFollows.2.1 57 = .ok (.invokevirtual 185, 3) := by decide +kernel
theorem dX12_readFollows_60 : decode YX12_readFollows.2.1 60 = .ok (.aload_n 0, 1) := by decide +kernel
theorem dX12_readFollows_61 : decode YX12_readFollows.2.1 61 = .ok (.bipush 22, 2) := by decide +kernel
theorem dX12_readFollows_63 : decode YX12_readFollows.2.1 63 = .ok (.aload_n 0, 1) := by decide +kernel
theorem dX12_readFollows_64 : decode YX12_readFollows.2.1 64 = .ok (.getfield 37, 3) := by decide +kernel
theorem dX12_readFollows_67 : decode YX12_readFollows.2.1 67 = .ok (.iconst 2, 1) := by decide +kernel
theorem dX12_readFollows_68 : decode YX12_readFollows.2.1 68 = .ok (.iaload, 1) := by decide +kernel
theorem dX12_readFollows_69 : decode YX12_readFollows.2.1 69 = .ok (.invokevirtual 207, 3) := by decide +kernel
theorem dX12_readFollows_72 : decode YX12_readFollows.2.1 72 = .ok (.ifCond .ne 5, 3) := by decide +kernel
theorem dX12_readFollows_75 : decode YX12_readFollows.2.1 75 = .ok (.iconst 0, 1) := by decide +kernel
theorem dX12_readFollows_76 : decode YX12_readFollows.2.1 76 = .ok (.ireturn, 1) := by decide +kernel
theorem dX12_readFollows_77 : decode YX12_readFollows.2.1 77 = .ok (.aload_n 0, 1) := by decide +kernel
theorem dX12_readFollows_78 : decode YX12_readFollows.2.1 78 = .ok (.getfield 192, 3) := by decide +kernel
theorem dX12_readFollows_81 : decode YX12_readFollows.2.1 81 = .ok (.iload_n 1, 1) := by decide +kernel
theorem dX12_readFollows_82 : decode YX12_readFollows.2.1 82 = .ok (.if_icmp .ne 9, 3) := by decide +kernel
theorem dX12_readFollows_85 : decode YX12_readFollows.2.1 85 = .ok (.aload_n 0, 1) := by decide +kernel
theorem dX12_readFollows_86 : decode YX12_readFollows.2.1 86 = .ok (.iconst 3, 1) := by decide +kernel
theorem dX12_readFollows_87 : decode YX12_readFollows.2.1 87 = .ok (.invokevirtual 182, 3) := by decide +kernel
theorem dX12_readFollows_90 : decode YX12_readFollows.2.1 90 = .ok (.ireturn, 1) := by decide +kernel
theorem dX12_readFollows_91 : decode YX12_readFollows.2.1 91 = .ok (.aload_n 0, 1) := by decide +kernel
theorem dX12_readFollows_92 : decode YX12_readFollows.2.1 92 = .ok (.getfield 192, 3) := by decide +kernel
theorem dX12_readFollows_95 : decode YX12_readFollows.2.1 95 = .ok (.istore_n 2, 1) := by decide +kernel
theorem dX12_readFollows_96 : decode YX12_readFollows.2.1 96 = .ok (.aload_n 0, 1) := by decide +kernel
theorem dX12_readFollows_97 : decode YX12_readFollows.2.1 97 = .ok (.invokevirtual 185, 3) := by decide +kernel
theorem dX12_readFollows_100 : decode YX12_readFollows.2.1 100 = .ok (.aload_n 0, 1) := by decide +kernel
theorem dX12_readFollows_101 : decode YX12_readFollows.2.1 101 = .ok (.bipush 29, 2) := by decide +kernel
theorem dX12_readFollows_103 : decode YX12_readFollows.2.1 103 = .ok (.iload_n 1, 1) := by decide +kernel
theorem dX12_readFollows_104 : decode YX12_readFollows.2.1 104 = .ok (.iadd, 1) := by decide +kernel
theorem dX12_readFollows_105 : decode YX12_readFollows.2.1 105 = .ok (.iconst 1, 1) := by decide +kernel
theorem dX12_readFollows_106 : decode YX12_readFollows.2.1 106 = .ok (.iconst 5, 1) := by decide +kernel
theorem dX12_readFollows_107 : decode YX12_readFollows.2.1 107 = .ok (.invokevirtual 238, 3) := by decide +kernel
theorem dX12_readFollows_110 : decode YX12_readFollows.2.1 110 = .ok (.ifCond .ne 5, 3) := by decide +kernel
theorem dX12_readFollows_113 : decode YX12_readFollows.2.1 113 = .ok (.iconst 0, 1) := by decide +kernel
theorem dX12_readFollows_114 : decode YX12_readFollows.2.1 114 = .ok (.ireturn, 1) := by decide +kernel
theorem dX12_readFollows_115 : decode YX12_readFollows.2.1 115 = .ok (.aload_n 0, 1) := by decide +kernel
theorem dX12_readFollows_116 : decode YX12_readFollows.2.1 116 = .ok (.getfield 37, 3) := by decide +kernel
theorem dX12_readFollows_119 : decode YX12_readFollows.2.1 119 = .ok (.bipush 23, 2) := by decide +kernel
theorem dX12_readFollows_121 : decode YX12_readFollows.2.1 121 = .ok (.iload_n 1, 1) := by decide +kernel
theorem dX12_readFollows_122 : decode YX12_readFollows.2.1 122 = .ok (.iadd, 1) := by decide +kernel
theorem dX12_readFollows_123 : decode YX12_readFollows.2.1 123 = .ok (.iload_n 2, 1) := by decide +kernel
theorem dX12_readFollows_124 : decode YX12_readFollows.2.1 124 = .ok (.iconst 1, 1) := by decide +kernel
theorem dX12_readFollows_125 : decode YX12_readFollows.2.1 125 = .ok (.iadd, 1) := by decide +kernel
theorem dX12_readFollows_126 : decode YX12_readFollows.2.1 126 = .ok (.iastore, 1) := by decide +kernel
theorem dX12_readFollows_127 : decode YX12_readFollows.2.1 127 = .ok (.iconst 1, 1) := by decide +kernel
theorem dX12_readFollows_128 : decode YX12_readFollows.2.1 128 = .ok (.ireturn, 1) := by decide +kernel
theorem dX12_readLine_0 : decode YX12_readLine.2.1 0 = .ok (.aload_n 0, 1) := by decide +kernel
theorem dX12_readLine_1 : decode YX12_readLine.2.1 1 = .ok (.ldc2_w 99, 3) := by decide +kernel
theorem dX12_readLine_4 : decode YX12_readLine.2.1 4 = .ok (.invokevirtual 210, 3) := by decide +kernel
theorem dX12_readLine_7 : decode YX12_readLine.2.1 7 = .ok (.ifCond .eq 8, 3) := by decide +kernel
theorem dX12_readLine_10 : decode YX12_readLine.2.1 10 = .ok (.aload_n 0, 1) := by decide +kernel
theorem dX12_readLine_11 : decode YX12_readLine.2.1 11 = .ok (.invokevirtual 214, 3) := by decide +kernel
theorem dX12_readLine_14 : decode YX12_readLine.2.1 14 = .ok (.ireturn, 1) := by decide +kernel
theorem dX12_readLine_15 : decode YX12_readLine.2.1 15 = .ok (.aload_n 0, 1) := by decide +kernel
theorem dX12_readLine_16 : decode YX12_readLine.2.1 16 = .ok (.ldc2_w 101, 3) := by decide +kernel
theorem dX12_readLine_19 : decode YX12_readLine.2.1 19 = .ok (.invokevirtual 210, 3) := by decide +kernel
theorem dX12_readLine_22 : decode YX12_readLine.2.1 22 = .ok (.ifCond .eq 8, 3) := by decide +kernel
theorem dX12_readLine_25 : decode YX12_readLine.2.1 25 = .ok (.aload_n 0, 1) := by decide +kernel
theorem dX12_readLine_26 : decode YX12_readLine.2.1 26 = .ok (.invokevirtual 217, 3) := by decide +kernel
theorem dX12_readLine_29 : decode YX12_readLine.2.1 29 = .ok (.ireturn, 1) := by decide +kernel
theorem dX12_readLine_30 : decode YX12_readLine.2.1 30 = .ok (.aload_n 0, 1) := by decide +kernel
theorem dX12_readLine_31 : decode YX12_readLine.2.1 31 = .ok (.ldc2_w 103, 3) := by decide +kernel
theorem dX12_readLine_34 : decode YX12_readLine.2.1 34 = .ok (.invokevirtual 210, 3) := by decide +kernel
theorem dX12_readLine_37 : decode YX12_readLine.2.1 37 = .ok (.ifCond .eq 8, 3) := by decide +kernel
theorem dX12_readLine_40 : decode YX12_readLine.2.1 40 = .ok (.aload_n 0, 1) := by decide +kernel
theorem dX12_readLine_41 : decode YX12_readLine.2.1 41 = .ok (.invokevirtual 220, 3) := by decide +kernel
theorem dX12_readLine_44 : decode YX12_readLine.2.1 44 = .ok (.ireturn, 1) := by decide +kernel
theorem dX12_readLine_45 : decode YX12_readLine.2.1 45 = .ok (.aload_n 0, 1) := by decide +kernel
theorem dX12_readLine_46 : decode YX12_readLine.2.1 46 = .ok (.ldc2_w 105, 3) := by decide +kernel
theorem dX12_readLine_49 : decode YX12_readLine.2.1 49 = .ok (.invokevirtual 210, 3) := by decide +kernel
theorem dX12_readLine_52 : decode YX12_readLine.2.1 52 = .ok (.ifCond .eq 8, 3) := by decide +kernel
theorem dX12_readLine_55 : decode YX12_readLine.2.1 55 = .ok (.aload_n 0, 1) := by decide +kernel
theorem dX12_readLine_56 : decode YX12_readLine.2.1 56 = .ok (.invokevirtual 223, 3) := by decide +kernel
theorem dX12_readLine_59 : decode YX12_readLine.2.1 59 = .ok (.ireturn, 1) := by decide +kernel
theorem dX12_readLine_60 : decode YX12_readLine.2.1 60 = .ok (.aload_n 0, 1) := by decide +kernel
theorem dX12_readLine_61 : decode YX12_readLine.2.1 61 = .ok (.ldc2_w 107, 3) := by decide +kernel
theorem dX12_readLine_64 : decode YX12_readLine.2.1 64 = .ok (.invokevirtual 210, 3) := by decide +kernel
theorem dX12_readLine_67 : decode YX12_readLine.2.1 67 = .ok (.ifCond .eq 10, 3) := by decide +kernel
theorem dX12_readLine_70 : decode YX12_readLine.2.1 70 = .ok (.aload_n 0, 1) := by decide +kernel
theorem dX12_readLine_71 : decode YX12_readLine.2.1 71 = .ok (.invokevirtual 226, 3) := by decide +kernel
theorem dX12_readLine_74 : decode YX12_readLine.2.1 74 = .ok (.goto 8, 3) := by decide +kernel
theorem dX12_readLine_77 : decode YX12_readLine.2.1 77 = .ok (.aload_n 0, 1) := by decide +kernel
theorem dX12_readLine_78 : decode YX12_readLine.2.1 78 = .ok (.iconst 1, 1) := by decide +kernel
theorem dX12_readLine_79 : decode YX12_readLine.2.1 79 = .ok (.invokevirtual 182, 3) := by decide +kernel
theorem dX12_readLine_82 : decode YX12_readLine.2.1 82 = .ok (.ireturn, 1) := by decide +kernel
theorem dX12_readNext_0 : decode YX12_readNext.2.1 0 = .ok (.aload_n 0, 1) := by decide +kernel
theorem dX12_readNext_1 : decode YX12_readNext.2.1 1 = .ok (.invokevirtual 185, 3) := by decide +kernel
theorem dX12_readNext_4 : decode YX12_readNext.2.1 4 = .ok (.aload_n 0, 1) := by decide +kernel
theorem dX12_readNext_5 : decode YX12_readNext.2.1 5 = .ok (.bipush 22, 2) := by decide +kernel
theorem dX12_readNext_7 : decode YX12_readNext.2.1 7 = .ok (.aload_n 0, 1) := by decide +kernel
theorem dX12_readNext_8 : decode YX12_readNext.2.1 8 = .ok (.getfield 37, 3) := by decide +kernel
theorem dX12_readNext_11 : decode YX12_readNext.2.1 11 = .ok (.iconst 2, 1) := by decide +kernel
theorem dX12_readNext_12 : decode YX12_readNext.2.1 12 = .ok (.iaload, 1) := by decide +kernel
theorem dX12_readNext_13 : decode YX12_readNext.2.1 13 = .ok (.invokevirtual 207, 3) := by decide +kernel
theorem dX12_readNext_16 : decode YX12_readNext.2.1 16 = .ok (.ifCond .ne 5, 3) := by decide +kernel
theorem dX12_readNext_19 : decode YX12_readNext.2.1 19 = .ok (.iconst 0, 1) := by decide +kernel
theorem dX12_readNext_20 : decode YX12_readNext.2.1 20 = .ok (.ireturn, 1) := by decide +kernel
theorem dX12_readNext_21 : decode YX12_readNext.2.1 21 = .ok (.aload_n 0, 1) := by decide +kernel
theorem dX12_readNext_22 : decode YX12_readNext.2.1 22 = .ok (.getfield 192, 3) := by decide +kernel
theorem dX12_readNext_25 : decode YX12_readNext.2.1 25 = .ok (.istore_n 1, 1) := by decide +kernel
theorem dX12_readNext_26 : decode YX12_readNext.2.1 26 = .ok (.aload_n 0, 1) := by decide +kernel
theorem dX12_readNext_27 : decode YX12_readNext.2.1 27 = .ok (.getfield 37, 3) := by decide +kernel
theorem dX12_readNext_30 : decode YX12_readNext.2.1 30 = .ok (.bipush 23, 2) := by decide +kernel
theorem dX12_readNext_32 : decode YX12_readNext.2.1 32 = .ok (.iload_n 1, 1) := by decide +kernel
theorem dX12_readNext_33 : decode YX12_readNext.2.1 33 = .ok (.iadd, 1) := by decide +kernel
theorem dX12_readNext_34 : decode YX12_readNext.2.1 34 = .ok (.iaload, 1) := by decide +kernel
theorem dX12_readNext_35 : decode YX12_readNext.2.1 35 = .ok (.ifCond .le 9, 3) := by decide +kernel
theorem dX12_readNext_38 : decode YX12_readNext.2.1 38 = .ok (.aload_n 0, 1) := by decide +kernel
theorem dX12_readNext_39 : decode YX12_readNext.2.1 39 = .ok (.iconst 3, 1) := by decide +kernel
theorem dX12_readNext_40 : decode YX12_readNext.2.1 40 = .ok (.invokevirtual 182, 3) := by decide +kernel
theorem dX12_readNext_43 : decode YX12_readNext.2.1 43 = .ok (.ireturn, 1) := by decide +kernel
theorem dX12_readNext_44 : decode YX12_readNext.2.1 44 = .ok (.aload_n 0, 1) := by decide +kernel
theorem dX12_readNext_45 : decode YX12_readNext.2.1 45 = .ok (.getfield 37, 3) := by decide +kernel
theorem dX12_readNext_48 : decode YX12_readNext.2.1 48 = .ok (.bipush 35, 2) := by decide +kernel
theorem dX12_readNext_50 : decode YX12_readNext.2.1 50 = .ok (.iload_n 1, 1) := by decide +kernel
theorem dX12_readNext_51 : decode YX12_readNext.2.1 51 = .ok (.iadd, 1) := by decide +kernel
theorem dX12_readNext_52 : decode YX12_readNext.2.1 52 = .ok (.iaload, 1) := by decide +kernel
theorem dX12_readNext_53 : decode YX12_readNext.2.1 53 = .ok (.istore_n 2, 1) := by decide +kernel
theorem dX12_readNext_54 : decode YX12_readNext.2.1 54 = .ok (.iload_n 2, 1) := by decide +kernel
theorem dX12_readNext_55 : decode YX12_readNext.2.1 55 = .ok (.bipush 8, 2) := by decide +kernel
theorem dX12_readNext_57 : decode YX12_readNext.2.1 57 = .ok (.if_icmp .ne 9, 3) := by decide +kernel
theorem dX12_readNext_60 : decode YX12_readNext.2.1 60 = .ok (.aload_n 0, 1) := by decide +kernel
theorem dX12_readNext_61 : decode YX12_readNext.2.1 61 = .ok (.iconst 4, 1) := by decide +kernel
theorem dX12_readNext_62 : decode YX12_readNext.2.1 62 = .ok (.invokevirtual 182, 3) := by decide +kernel
theorem dX12_readNext_65 : decode YX12_readNext.2.1 65 = .ok (.ireturn, 1) := by decide +kernel
theorem dX12_readNext_66 : decode YX12_readNext.2.1 66 = .ok (.aload_n 0, 1) := by decide +kernel
theorem dX12_readNext_67 : decode YX12_readNext.2.1 67 = .ok (.invokevirtual 185, 3) := by decide +kernel
theorem dX12_readNext_70 : decode YX12_readNext.2.1 70 = .ok (.aload_n 0, 1) := by decide +kernel
theorem dX12_readNext_71 : decode YX12_readNext.2.1 71 = .ok (.bipush 14, 2) := by decide +kernel
theorem dX12_readNext_73 : decode YX12_readNext.2.1 73 = .ok (.aload_n 0, 1) := by decide +kernel
theorem dX12_readNext_74 : decode YX12_readNext.2.1 74 = .ok (.getfield 37, 3) := by decide +kernel
theorem dX12_readNext_77 : decode YX12_readNext.2.1 77 = .ok (.iconst 0, 1) := by decide +kernel
theorem dX12_readNext_78 : decode YX12_readNext.2.1 78 = .ok (.iaload, 1) := by decide +kernel
theorem dX12_readNext_79 : decode YX12_readNext.2.1 79 = .ok (.invokevirtual 207, 3) := by decide +kernel
theorem dX12_readNext_82 : decode YX12_readNext.2.1 82 = .ok (.ifCond .ne 5, 3) := by decide +kernel
theorem dX12_readNext_85 : decode YX12_readNext.2.1 85 = .ok (.iconst 0, 1) := by decide +kernel
theorem dX12_readNext_86 : decode YX12_readNext.2.1 86 = .ok (.ireturn, 1) := by decide +kernel
theorem dX12_readNext_87 : decode YX12_readNext.2.1 87 = .ok (.aload_n 0, 1) := by decide +kernel
theorem dX12_readNext_88 : decode YX12_readNext.2.1 88 = .ok (.getfield 37, 3) := by decide +kernel
theorem dX12_readNext_91 : decode YX12_readNext.2.1 91 = .ok (.iconst 3, 1) := by decide +kernel
theorem dX12_readNext_92 : decode YX12_readNext.2.1 92 = .ok (.iload_n 2, 1) := by decide +kernel
theorem dX12_readNext_93 : decode YX12_readNext.2.1 93 = .ok (.ifCond .ne 15, 3) := by decide +kernel
theorem dX12_readNext_96 : decode YX12_readNext.2.1 96 = .ok (.aload_n 0, 1) := by decide +kernel
theorem dX12_readNext_97 : decode YX12_readNext.2.1 97 = .ok (.getfield 37, 3) := by decide +kernel
theorem dX12_readNext_100 : decode YX12_readNext.2.1 100 = .ok (.bipush 11, 2) := by decide +kernel
theorem dX12_readNext_102 : decode YX12_readNext.2.1 102 = .ok (.iload_n 1, 1) := by decide +kernel
theorem dX12_readNext_103 : decode YX12_readNext.2.1 103 = .ok (.iadd, 1) := by decide +kernel
theorem dX12_readNext_104 : decode YX12_readNext.2.1 104 = .ok (.iaload, 1) := by decide +kernel
theorem dX12_readNext_105 : decode YX12_readNext.2.1 105 = .ok (.goto 19, 3) := by decide +kernel
theorem dX12_readNext_108 : decode YX12_readNext.2.1 108 = .ok (.aload_n 0, 1) := by decide +kernel
theorem dX12_readNext_109 : decode YX12_readNext.2.1 109 = .ok (.getfield 37, 3) := by decide +kernel
theorem dX12_readNext_112 : decode YX12_readNext.2.1 112 = .ok (.bipush 41, 2) := by decide +kernel
theorem dX12_readNext_114 : decode YX12_readNext.2.1 114 = .ok (.bipush 8, 2) := by decide +kernel
theorem dX12_readNext_116 : decode YX12_readNext.2.1 116 = .ok (.iload_n 1, 1) := by decide +kernel
theorem dX12_readNext_117 : decode YX12_readNext.2.1 117 = .ok (.imul, 1) := by decide +kernel
theorem dX12_readNext_118 : decode YX12_readNext.2.1 118 = .ok (.iadd, 1) := by decide +kernel
theorem dX12_readNext_119 : decode YX12_readNext.2.1 119 = .ok (.iload_n 2, 1) := by decide +kernel
theorem dX12_readNext_120 : decode YX12_readNext.2.1 120 = .ok (.iadd, 1) := by decide +kernel
theorem dX12_readNext_121 : decode YX12_readNext.2.1 121 = .ok (.iconst 1, 1) := by decide +kernel
theorem dX12_readNext_122 : decode YX12_readNext.2.1 122 = .ok (.isub, 1) := by decide +kernel
theorem dX12_readNext_123 : decode YX12_readNext.2.1 123 = .ok (.iaload, 1) := by decide +kernel
theorem dX12_readNext_124 : decode YX12_readNext.2.1 124 = .ok (.iadd, 1) := by decide +kernel
theorem dX12_readNext_125 : decode YX12_readNext.2.1 125 = .ok (.iaload, 1) := by decide +kernel
theorem dX12_readNext_126 : decode YX12_readNext.2.1 126 = .ok (.aload_n 0, 1) := by decide +kernel
theorem dX12_readNext_127 : decode YX12_readNext.2.1 127 = .ok (.getfield 192, 3) := by decide +kernel
theorem dX12_readNext_130 : decode YX12_readNext.2.1 130 = .ok (.invokestatic 235, 3) := by decide +kernel
theorem dX12_readNext_133 : decode YX12_readNext.2.1 133 = .ok (.ifCond .ne 9, 3) := by decide +kernel
theorem dX12_readNext_136 : decode YX12_readNext.2.1 136 = .ok (.aload_n 0, 1) := by decide +kernel
theorem dX12_readNext_137 : decode YX12_readNext.2.1 137 = .ok (.iconst 3, 1) := by decide +kernel
theorem dX12_readNext_138 : decode YX12_readNext.2.1 138 = .ok (.invokevirtual 182, 3) := by decide +kernel
theorem dX12_readNext_141 : decode YX12_readNext.2.1 141 = .ok (.ireturn, 1) := by decide +kernel
theorem dX12_readNext_142 : decode YX12_readNext.2.1 142 = .ok (.aload_n 0, 1) := by decide +kernel
theorem dX12_readNext_143 : decode YX12_readNext.2.1 143 = .ok (.getfield 37, 3) := by decide +kernel
theorem dX12_readNext_146 : decode YX12_readNext.2.1 146 = .ok (.bipush 41, 2) := by decide +kernel
theorem dX12_readNext_148 : decode YX12_readNext.2.1 148 = .ok (.bipush 8, 2) := by decide +kernel
theorem dX12_readNext_150 : decode YX12_readNext.2.1 150 = .ok (.iload_n 1, 1) := by decide +kernel
theorem dX12_readNext_151 : decode YX12_readNext.2.1 151 = .ok (.imul, 1) := by decide +kernel
theorem dX12_readNext_152 : decode YX12_readNext.2.1 152 = .ok (.iadd, 1) := by decide +kernel
theorem dX12_readNext_153 : decode YX12_readNext.2.1 153 = .ok (.iload_n 2, 1) := by decide +kernel
theorem dX12_readNext_154 : decode YX12_readNext.2.1 154 = .ok (.iadd, 1) := by decide +kernel
theorem dX12_readNext_155 : decode YX12_readNext.2.1 155 = .ok (.aload_n 0, 1) := by decide +kernel
theorem dX12_readNext_156 : decode YX12_readNext.2.1 156 = .ok (.getfield 192, 3) := by decide +kernel
theorem dX12_readNext_159 : decode YX12_readNext.2.1 159 = .ok (.iastore, 1) := by decide +kernel
theorem dX12_readNext_160 : decode YX12_readNext.2.1 160 = .ok (.aload_n 0, 1) := by decide +kernel
theorem dX12_readNext_161 : decode YX12_readNext.2.1 161 = .ok (.getfield 37, 3) := by decide +kernel
theorem dX12_readNext_164 : decode YX12_readNext.2.1 164 = .ok (.bipush 35, 2) := by decide +kernel
theorem dX12_readNext_166 : decode YX12_readNext.2.1 166 = .ok (.iload_n 1, 1) := by decide +kernel
theorem dX12_readNext_167 : decode YX12_readNext.2.1 167 = .ok (.iadd, 1) := by decide +kernel
theorem dX12_readNext_168 : decode YX12_readNext.2.1 168 = .ok (.dup2, 1) := by decide +kernel
theorem dX12_readNext_169 : decode YX12_readNext.2.1 169 = .ok (.iaload, 1) := by decide +kernel
theorem dX12_readNext_170 : decode YX12_readNext.2.1 170 = .ok (.iconst 1, 1) := by decide +kernel
theorem dX12_readNext_171 : decode YX12_readNext.2.1 171 = .ok (.iadd, 1) := by decide +kernel
theorem dX12_readNext_172 : decode YX12_readNext.2.1 172 = .ok (.iastore, 1) := by decide +kernel
theorem dX12_readNext_173 : decode YX12_readNext.2.1 173 = .ok (.aload_n 0, 1) := by decide +kernel
theorem dX12_readNext_174 : decode YX12_readNext.2.1 174 = .ok (.invokevirtual 185, 3) := by decide +kernel
theorem dX12_readNext_177 : decode YX12_readNext.2.1 177 = .ok (.iconst 1, 1) := by decide +kernel
theorem dX12_readNext_178 : decode YX12_readNext.2.1 178 = .ok (.ireturn, 1) := by decide +kernel
theorem dX12_readPerson_0 : decode YX12_readPerson.2.1 0 = .ok (.aload_n 0, 1) := by decide +kernel
theorem dX12_readPerson_1 : decode YX12_readPerson.2.1 1 = .ok (.getfield 37, 3) := by decide +kernel
theorem dX12_readPerson_4 : decode YX12_readPerson.2.1 4 = .ok (.iconst 2, 1) := by decide +kernel
theorem dX12_readPerson_5 : decode YX12_readPerson.2.1 5 = .ok (.iaload, 1) := by decide +kernel
theorem dX12_readPerson_6 : decode YX12_readPerson.2.1 6 = .ok (.istore_n 1, 1) := by decide +kernel
theorem dX12_readPerson_7 : decode YX12_readPerson.2.1 7 = .ok (.iload_n 1, 1) := by decide +kernel
theorem dX12_readPerson_8 : decode YX12_readPerson.2.1 8 = .ok (.bipush 6, 2) := by decide +kernel
theorem dX12_readPerson_10 : decode YX12_readPerson.2.1 10 = .ok (.if_icmp .ne 9, 3) := by decide +kernel
theorem dX12_readPerson_13 : decode YX12_readPerson.2.1 13 = .ok (.aload_n 0, 1) := by decide +kernel
theorem dX12_readPerson_14 : decode YX12_readPerson.2.1 14 = .ok (.iconst 4, 1) := by decide +kernel
theorem dX12_readPerson_15 : decode YX12_readPerson.2.1 15 = .ok (.invokevirtual 182, 3) := by decide +kernel
theorem dX12_readPerson_18 : decode YX12_readPerson.2.1 18 = .ok (.ireturn, 1) := by decide +kernel
theorem dX12_readPerson_19 : decode YX12_readPerson.2.1 19 = .ok (.aload_n 0, 1) := by decide +kernel
theorem dX12_readPerson_20 : decode YX12_readPerson.2.1 20 = .ok (.invokevirtual 185, 3) := by decide +kernel
theorem dX12_readPerson_23 : decode YX12_readPerson.2.1 23 = .ok (.aload_n 0, 1) := by decide +kernel
theorem dX12_readPerson_24 : decode YX12_readPerson.2.1 24 = .ok (.bipush 22, 2) := by decide +kernel
theorem dX12_readPerson_26 : decode YX12_readPerson.2.1 26 = .ok (.iload_n 1, 1) := by decide +kernel
theorem dX12_readPerson_27 : decode YX12_readPerson.2.1 27 = .ok (.iadd, 1) := by decide +kernel
theorem dX12_readPerson_28 : decode YX12_readPerson.2.1 28 = .ok (.invokevirtual 229, 3) := by decide +kernel
theorem dX12_readPerson_31 : decode YX12_readPerson.2.1 31 = .ok (.ifCond .eq 18, 3) := by decide +kernel
theorem dX12_readPerson_34 : decode YX12_readPerson.2.1 34 = .ok (.aload_n 0, 1) := by decide +kernel
theorem dX12_readPerson_35 : decode YX12_readPerson.2.1 35 = .ok (.bipush 14, 2) := by decide +kernel
theorem dX12_readPerson_37 : decode YX12_readPerson.2.1 37 = .ok (.aload_n 0, 1) := by decide +kernel
theorem dX12_readPerson_38 : decode YX12_readPerson.2.1 38 = .ok (.getfield 37, 3) := by decide +kernel
theorem dX12_readPerson_41 : decode YX12_readPerson.2.1 41 = .ok (.iconst 0, 1) := by decide +kernel
theorem dX12_readPerson_42 : decode YX12_readPerson.2.1 42 = .ok (.iaload, 1) := by decide +kernel
theorem dX12_readPerson_43 : decode YX12_readPerson.2.1 43 = .ok (.invokevirtual 232, 3) := by decide +kernel
theorem dX12_readPerson_46 : decode YX12_readPerson.2.1 46 = .ok (.ifCond .ne 5, 3) := by decide +kernel
theorem dX12_readPerson_49 : decode YX12_readPerson.2.1 49 = .ok (.iconst 0, 1) := by decide +kernel
theorem dX12_readPerson_50 : decode YX12_readPerson.2.1 50 = .ok (.ireturn, 1) := by decide +kernel
theorem dX12_readPerson_51 : decode YX12_readPerson.2.1 51 = .ok (.aload_n 0, 1) := by decide +kernel
theorem dX12_readPerson_52 : decode YX12_readPerson.2.1 52 = .ok (.getfield 37, 3) := by decide +kernel
theorem dX12_readPerson_55 : decode YX12_readPerson.2.1 55 = .ok (.bipush 11, 2) := by decide +kernel
theorem dX12_readPerson_57 : decode YX12_readPerson.2.1 57 = .ok (.iload_n 1, 1) := by decide +kernel
theorem dX12_readPerson_58 : decode YX12_readPerson.2.1 58 = .ok (.iadd, 1) := by decide +kernel
theorem dX12_readPerson_59 : decode YX12_readPerson.2.1 59 = .ok (.aload_n 0, 1) := by decide +kernel
theorem dX12_readPerson_60 : decode YX12_readPerson.2.1 60 = .ok (.getfield 192, 3) := by decide +kernel
theorem dX12_readPerson_63 : decode YX12_readPerson.2.1 63 = .ok (.iastore, 1) := by decide +kernel
theorem dX12_readPerson_64 : decode YX12_readPerson.2.1 64 = .ok (.aload_n 0, 1) := by decide +kernel
theorem dX12_readPerson_65 : decode YX12_readPerson.2.1 65 = .ok (.bipush 17, 2) := by decide +kernel
theorem dX12_readPerson_67 : decode YX12_readPerson.2.1 67 = .ok (.iload_n 1, 1) := by decide +kernel
theorem dX12_readPerson_68 : decode YX12_readPerson.2.1 68 = .ok (.iadd, 1) := by decide +kernel
theorem dX12_readPerson_69 : decode YX12_readPerson.2.1 69 = .ok (.iconst 0, 1) := by decide +kernel
theorem dX12_readPerson_70 : decode YX12_readPerson.2.1 70 = .ok (.bipush 9, 2) := by decide +kernel
theorem dX12_readPerson_72 : decode YX12_readPerson.2.1 72 = .ok (.invokevirtual 238, 3) := by decide +kernel
theorem dX12_readPerson_75 : decode YX12_readPerson.2.1 75 = .ok (.ifCond .ne 5, 3) := by decide +kernel
theorem dX12_readPerson_78 : decode YX12_readPerson.2.1 78 = .ok (.iconst 0, 1) := by decide +kernel
theorem dX12_readPerson_79 : decode YX12_readPerson.2.1 79 = .ok (.ireturn, 1) := by decide +kernel
theorem dX12_readPerson_80 : decode YX12_readPerson.2.1 80 = .ok (.aload_n 0, 1) := by decide +kernel
theorem dX12_readPerson_81 : decode YX12_readPerson.2.1 81 = .ok (.getfield 37, 3) := by decide +kernel
theorem dX12_readPerson_84 : decode YX12_readPerson.2.1 84 = .ok (.iconst 2, 1) := by decide +kernel
theorem dX12_readPerson_85 : decode YX12_readPerson.2.1 85 = .ok (.dup2, 1) := by decide +kernel
theorem dX12_readPerson_86 : decode YX12_readPerson.2.1 86 = .ok (.iaload, 1) := by decide +kernel
theorem dX12_readPerson_87 : decode YX12_readPerson.2.1 87 = .ok (.iconst 1, 1) := by decide +kernel
theorem dX12_readPerson_88 : decode YX12_readPerson.2.1 88 = .ok (.iadd, 1) := by decide +kernel
theorem dX12_readPerson_89 : decode YX12_readPerson.2.1 89 = .ok (.iastore, 1) := by decide +kernel
theorem dX12_readPerson_90 : decode YX12_readPerson.2.1 90 = .ok (.iconst 1, 1) := by decide +kernel
theorem dX12_readPerson_91 : decode YX12_readPerson.2.1 91 = .ok (.ireturn, 1) := by decide +kernel
theorem dX12_readStreet_0 : decode YX12_readStreet.2.1 0 = .ok (.aload_n 0, 1) := by decide +kernel
theorem dX12_readStreet_1 : decode YX12_readStreet.2.1 1 = .ok (.getfield 37, 3) := by decide +kernel
theorem dX12_readStreet_4 : decode YX12_readStreet.2.1 4 = .ok (.iconst 1, 1) := by decide +kernel
theorem dX12_readStreet_5 : decode YX12_readStreet.2.1 5 = .ok (.iaload, 1) := by decide +kernel
theorem dX12_readStreet_6 : decode YX12_readStreet.2.1 6 = .ok (.bipush 14, 2) := by decide +kernel
theorem dX12_readStreet_8 : decode YX12_readStreet.2.1 8 = .ok (.if_icmp .ne 9, 3) := by decide +kernel
theorem dX12_readStreet_11 : decode YX12_readStreet.2.1 11 = .ok (.aload_n 0, 1) := by decide +kernel
theorem dX12_readStreet_12 : decode YX12_readStreet.2.1 12 = .ok (.iconst 4, 1) := by decide +kernel
theorem dX12_readStreet_13 : decode YX12_readStreet.2.1 13 = .ok (.invokevirtual 182, 3) := by decide +kernel
theorem dX12_readStreet_16 : decode YX12_readStreet.2.1 16 = .ok (.ireturn, 1) := by decide +kernel
theorem dX12_readStreet_17 : decode YX12_readStreet.2.1 17 = .ok (.aload_n 0, 1) := by decide +kernel
theorem dX12_readStreet_18 : decode YX12_readStreet.2.1 18 = .ok (.invokevirtual 185, 3) := by decide +kernel
theorem dX12_readStreet_21 : decode YX12_readStreet.2.1 21 = .ok (.aload_n 0, 1) := by decide +kernel
theorem dX12_readStreet_22 : decode YX12_readStreet.2.1 22 = .ok (.bipush 14, 2) := by decide +kernel
theorem dX12_readStreet_24 : decode YX12_readStreet.2.1 24 = .ok (.aload_n 0, 1) := by decide +kernel
theorem dX12_readStreet_25 : decode YX12_readStreet.2.1 25 = .ok (.getfield 37, 3) := by decide +kernel
theorem dX12_readStreet_28 : decode YX12_readStreet.2.1 28 = .ok (.iconst 0, 1) := by decide +kernel
theorem dX12_readStreet_29 : decode YX12_readStreet.2.1 29 = .ok (.iaload, 1) := by decide +kernel
theorem dX12_readStreet_30 : decode YX12_readStreet.2.1 30 = .ok (.invokevirtual 232, 3) := by decide +kernel
theorem dX12_readStreet_33 : decode YX12_readStreet.2.1 33 = .ok (.ifCond .ne 5, 3) := by decide +kernel
theorem dX12_readStreet_36 : decode YX12_readStreet.2.1 36 = .ok (.iconst 0, 1) := by decide +kernel
theorem dX12_readStreet_37 : decode YX12_readStreet.2.1 37 = .ok (.ireturn, 1) := by decide +kernel
theorem dX12_readStreet_38 : decode YX12_readStreet.2.1 38 = .ok (.aload_n 0, 1) := by decide +kernel
theorem dX12_readStreet_39 : decode YX12_readStreet.2.1 39 = .ok (.getfield 192, 3) := by decide +kernel
theorem dX12_readStreet_42 : decode YX12_readStreet.2.1 42 = .ok (.istore_n 1, 1) := by decide +kernel
theorem dX12_readStreet_43 : decode YX12_readStreet.2.1 43 = .ok (.aload_n 0, 1) := by decide +kernel
theorem dX12_readStreet_44 : decode YX12_readStreet.2.1 44 = .ok (.bipush 14, 2) := by decide +kernel
theorem dX12_readStreet_46 : decode YX12_readStreet.2.1 46 = .ok (.aload_n 0, 1) := by decide +kernel
theorem dX12_readStreet_47 : decode YX12_readStreet.2.1 47 = .ok (.getfield 37, 3) := by decide +kernel
theorem dX12_readStreet_50 : decode YX12_readStreet.2.1 50 = .ok (.iconst 0, 1) := by decide +kernel
theorem dX12_readStreet_51 : decode YX12_readStreet.2.1 51 = .ok (.iaload, 1) := by decide +kernel
theorem dX12_readStreet_52 : decode YX12_readStreet.2.1 52 = .ok (.invokevirtual 207, 3) := by decide +kernel
theorem dX12_readStreet_55 : decode YX12_readStreet.2.1 55 = .ok (.ifCond .ne 5, 3) := by decide +kernel
theorem dX12_readStreet_58 : decode YX12_readStreet.2.1 58 = .ok (.iconst 0, 1) := by decide +kernel
theorem dX12_readStreet_59 : decode YX12_readStreet.2.1 59 = .ok (.ireturn, 1) := by decide +kernel
theorem dX12_readStreet_60 : decode YX12_readStreet.2.1 60 = .ok (.aload_n 0, 1) := by decide +kernel
theorem dX12_readStreet_61 : decode YX12_readStreet.2.1 61 = .ok (.getfield 192, 3) := by decide +kernel
theorem dX12_readStreet_64 : decode YX12_readStreet.2.1 64 = .ok (.iload_n 1, 1) := by decide +kernel
theorem dX12_readStreet_65 : decode YX12_readStreet.2.1 65 = .ok (.if_icmp .eq 21, 3) := by decide +kernel
theorem dX12_readStreet_68 : decode YX12_readStreet.2.1 68 = .ok (.aload_n 0, 1) := by decide +kernel
theorem dX12_readStreet_69 : decode YX12_readStreet.2.1 69 = .ok (.getfield 37, 3) := by decide +kernel
theorem dX12_readStreet_72 : decode YX12_readStreet.2.1 72 = .ok (.iconst 3, 1) := by decide +kernel
theorem dX12_readStreet_73 : decode YX12_readStreet.2.1 73 = .ok (.iload_n 1, 1) := by decide +kernel
theorem dX12_readStreet_74 : decode YX12_readStreet.2.1 74 = .ok (.iadd, 1) := by decide +kernel
theorem dX12_readStreet_75 : decode YX12_readStreet.2.1 75 = .ok (.iaload, 1) := by decide +kernel
theorem dX12_readStreet_76 : decode YX12_readStreet.2.1 76 = .ok (.aload_n 0, 1) := by decide +kernel
theorem dX12_readStreet_77 : decode YX12_readStreet.2.1 77 = .ok (.getfield 192, 3) := by decide +kernel
theorem dX12_readStreet_80 : decode YX12_readStreet.2.1 80 = .ok (.invokestatic 235, 3) := by decide +kernel
theorem dX12_readStreet_83 : decode YX12_readStreet.2.1 83 = .ok (.ifCond .eq 9, 3) := by decide +kernel
theorem dX12_readStreet_86 : decode YX12_readStreet.2.1 86 = .ok (.aload_n 0, 1) := by decide +kernel
theorem dX12_readStreet_87 : decode YX12_readStreet.2.1 87 = .ok (.iconst 3, 1) := by decide +kernel
theorem dX12_readStreet_88 : decode YX12_readStreet.2.1 88 = .ok (.invokevirtual 182, 3) := by decide +kernel
theorem dX12_readStreet_91 : decode YX12_readStreet.2.1 91 = .ok (.ireturn, 1) := by decide +kernel
theorem dX12_readStreet_92 : decode YX12_readStreet.2.1 92 = .ok (.aload_n 0, 1) := by decide +kernel
theorem dX12_readStreet_93 : decode YX12_readStreet.2.1 93 = .ok (.getfield 37, 3) := by decide +kernel
theorem dX12_readStreet_96 : decode YX12_readStreet.2.1 96 = .ok (.iconst 3, 1) := by decide +kernel
theorem dX12_readStreet_97 : decode YX12_readStreet.2.1 97 = .ok (.iload_n 1, 1) := by decide +kernel
theorem dX12_readStreet_98 : decode YX12_readStreet.2.1 98 = .ok (.iadd, 1) := by decide +kernel
theorem dX12_readStreet_99 : decode YX12_readStreet.2.1 99 = .ok (.dup2, 1) := by decide +kernel
theorem dX12_readStreet_100 : decode YX12_readStreet.2.1 100 = .ok (.iaload, 1) := by decide +kernel
theorem dX12_readStreet_101 : decode YX12_readStreet.2.1 101 = .ok (.iconst 1, 1) := by decide +kernel
theorem dX12_readStreet_102 : decode YX12_readStreet.2.1 102 = .ok (.aload_n 0, 1) := by decide +kernel
theorem dX12_readStreet_103 : decode YX12_readStreet.2.1 103 = .ok (.getfield 192, 3) := by decide +kernel
theorem dX12_readStreet_106 : decode YX12_readStreet.2.1 106 = .ok (.ishl, 1) := by decide +kernel
theorem dX12_readStreet_107 : decode YX12_readStreet.2.1 107 = .ok (.ior, 1) := by decide +kernel
theorem dX12_readStreet_108 : decode YX12_readStreet.2.1 108 = .ok (.iastore, 1) := by decide +kernel
theorem dX12_readStreet_109 : decode YX12_readStreet.2.1 109 = .ok (.aload_n 0, 1) := by decide +kernel
theorem dX12_readStreet_110 : decode YX12_readStreet.2.1 110 = .ok (.getfield 37, 3) := by decide +kernel
theorem dX12_readStreet_113 : decode YX12_readStreet.2.1 113 = .ok (.iconst 3, 1) := by decide +kernel
theorem dX12_readStreet_114 : decode YX12_readStreet.2.1 114 = .ok (.aload_n 0, 1) := by decide +kernel
theorem dX12_readStreet_115 : decode YX12_readStreet.2.1 115 = .ok (.getfield 192, 3) := by decide +kernel
theorem dX12_readStreet_118 : decode YX12_readStreet.2.1 118 = .ok (.iadd, 1) := by decide +kernel
theorem dX12_readStreet_119 : decode YX12_readStreet.2.1 119 = .ok (.dup2, 1) := by decide +kernel
theorem dX12_readStreet_120 : decode YX12_readStreet.2.1 120 = .ok (.iaload, 1) := by decide +kernel
theorem dX12_readStreet_121 : decode YX12_readStreet.2.1 121 = .ok (.iconst 1, 1) := by decide +kernel
theorem dX12_readStreet_122 : decode YX12_readStreet.2.1 122 = .ok (.iload_n 1, 1) := by decide +kernel
theorem dX12_readStreet_123 : decode YX12_readStreet.2.1 123 = .ok (.ishl, 1) := by decide +kernel
theorem dX12_readStreet_124 : decode YX12_readStreet.2.1 124 = .ok (.ior, 1) := by decide +kernel
theorem dX12_readStreet_125 : decode YX12_readStreet.2.1 125 = .ok (.iastore, 1) := by decide +kernel
theorem dX12_readStreet_126 : decode YX12_readStreet.2.1 126 = .ok (.aload_n 0, 1) := by decide +kernel
theorem dX12_readStreet_127 : decode YX12_readStreet.2.1 127 = .ok (.getfield 37, 3) := by decide +kernel
theorem dX12_readStreet_130 : decode YX12_readStreet.2.1 130 = .ok (.iconst 1, 1) := by decide +kernel
theorem dX12_readStreet_131 : decode YX12_readStreet.2.1 131 = .ok (.dup2, 1) := by decide +kernel
theorem dX12_readStreet_132 : decode YX12_readStreet.2.1 132 = .ok (.iaload, 1) := by decide +kernel
theorem dX12_readStreet_133 : decode YX12_readStreet.2.1 133 = .ok (.iconst 1, 1) := by decide +kernel
theorem dX12_readStreet_134 : decode YX12_readStreet.2.1 134 = .ok (.iadd, 1) := by decide +kernel
theorem dX12_readStreet_135 : decode YX12_readStreet.2.1 135 = .ok (.iastore, 1) := by decide +kernel
theorem dX12_readStreet_136 : decode YX12_readStreet.2.1 136 = .ok (.aload_n 0, 1) := by decide +kernel
theorem dX12_readStreet_137 : decode YX12_readStreet.2.1 137 = .ok (.invokevirtual 185, 3) := by decide +kernel
theorem dX12_readStreet_140 : decode YX12_readStreet.2.1 140 = .ok (.iconst 1, 1) := by decide +kernel
theorem dX12_readStreet_141 : decode YX12_readStreet.2.1 141 = .ok (.ireturn, 1) := by decide +kernel
theorem dX12_restore_0 : decode YX12_restore.2.1 0 = .ok (.aload_n 0, 1) := by decide +kernel
theorem dX12_restore_1 : decode YX12_restore.2.1 1 = .ok (.iconst 0, 1) := by decide +kernel
theorem dX12_restore_2 : decode YX12_restore.2.1 2 = .ok (.putfield 1, 3) := by decide +kernel
theorem dX12_restore_5 : decode YX12_restore.2.1 5 = .ok (.iload_n 1, 1) := by decide +kernel
theorem dX12_restore_6 : decode YX12_restore.2.1 6 = .ok (.iconst 0, 1) := by decide +kernel
theorem dX12_restore_7 : decode YX12_restore.2.1 7 = .ok (.iconst 1, 1) := by decide +kernel
theorem dX12_restore_8 : decode YX12_restore.2.1 8 = .ok (.invokestatic 188, 3) := by decide +kernel
theorem dX12_restore_11 : decode YX12_restore.2.1 11 = .ok (.ifCond .eq 12, 3) := by decide +kernel
theorem dX12_restore_14 : decode YX12_restore.2.1 14 = .ok (.aload_n 0, 1) := by decide +kernel
theorem dX12_restore_15 : decode YX12_restore.2.1 15 = .ok (.getfield 96, 3) := by decide +kernel
theorem dX12_restore_18 : decode YX12_restore.2.1 18 = .ok (.iload_n 1, 1) := by decide +kernel
theorem dX12_restore_19 : decode YX12_restore.2.1 19 = .ok (.baload, 1) := by decide +kernel
theorem dX12_restore_20 : decode YX12_restore.2.1 20 = .ok (.ifCond .ne 5, 3) := by decide +kernel
theorem dX12_restore_23 : decode YX12_restore.2.1 23 = .ok (.iconst 0, 1) := by decide +kernel
theorem dX12_restore_24 : decode YX12_restore.2.1 24 = .ok (.ireturn, 1) := by decide +kernel
theorem dX12_restore_25 : decode YX12_restore.2.1 25 = .ok (.iconst 0, 1) := by decide +kernel
theorem dX12_restore_26 : decode YX12_restore.2.1 26 = .ok (.istore_n 2, 1) := by decide +kernel
theorem dX12_restore_27 : decode YX12_restore.2.1 27 = .ok (.iload_n 2, 1) := by decide +kernel
theorem dX12_restore_28 : decode YX12_restore.2.1 28 = .ok (.sipush 397, 3) := by decide +kernel
theorem dX12_restore_31 : decode YX12_restore.2.1 31 = .ok (.if_icmp .ge 27, 3) := by decide +kernel
theorem dX12_restore_34 : decode YX12_restore.2.1 34 = .ok (.aload_n 0, 1) := by decide +kernel
theorem dX12_restore_35 : decode YX12_restore.2.1 35 = .ok (.getfield 33, 3) := by decide +kernel
theorem dX12_restore_38 : decode YX12_restore.2.1 38 = .ok (.iload_n 2, 1) := by decide +kernel
theorem dX12_restore_39 : decode YX12_restore.2.1 39 = .ok (.aload_n 0, 1) := by decide +kernel
theorem dX12_restore_40 : decode YX12_restore.2.1 40 = .ok (.getfield 90, 3) := by decide +kernel
theorem dX12_restore_43 : decode YX12_restore.2.1 43 = .ok (.sipush 397, 3) := by decide +kernel
theorem dX12_restore_46 : decode YX12_restore.2.1 46 = .ok (.iload_n 1, 1) := by decide +kernel
theorem dX12_restore_47 : decode YX12_restore.2.1 47 = .ok (.imul, 1) := by decide +kernel
theorem dX12_restore_48 : decode YX12_restore.2.1 48 = .ok (.iload_n 2, 1) := by decide +kernel
theorem dX12_restore_49 : decode YX12_restore.2.1 49 = .ok (.iadd, 1) := by decide +kernel
theorem dX12_restore_50 : decode YX12_restore.2.1 50 = .ok (.iaload, 1) := by decide +kernel
theorem dX12_restore_51 : decode YX12_restore.2.1 51 = .ok (.iastore, 1) := by decide +kernel
theorem dX12_restore_52 : decode YX12_restore.2.1 52 = .ok (.iinc 2 1, 3) := by decide +kernel
theorem dX12_restore_55 : decode YX12_restore.2.1 55 = .ok (.goto (-28), 3) := by decide +kernel
theorem dX12_restore_58 : decode YX12_restore.2.1 58 = .ok (.iconst 0, 1) := by decide +kernel
theorem dX12_restore_59 : decode YX12_restore.2.1 59 = .ok (.istore_n 2, 1) := by decide +kernel
theorem dX12_restore_60 : decode YX12_restore.2.1 60 = .ok (.iload_n 2, 1) := by decide +kernel
theorem dX12_restore_61 : decode YX12_restore.2.1 61 = .ok (.bipush 14, 2) := by decide +kernel
theorem dX12_restore_63 : decode YX12_restore.2.1 63 = .ok (.if_icmp .ge 26, 3) := by decide +kernel
theorem dX12_restore_66 : decode YX12_restore.2.1 66 = .ok (.aload_n 0, 1) := by decide +kernel
theorem dX12_restore_67 : decode YX12_restore.2.1 67 = .ok (.getfield 43, 3) := by decide +kernel
theorem dX12_restore_70 : decode YX12_restore.2.1 70 = .ok (.iload_n 2, 1) := by decide +kernel
theorem dX12_restore_71 : decode YX12_restore.2.1 71 = .ok (.aload_n 0, 1) := by decide +kernel
theorem dX12_restore_72 : decode YX12_restore.2.1 72 = .ok (.getfield 93, 3) := by decide +kernel
theorem dX12_restore_75 : decode YX12_restore.2.1 75 = .ok (.bipush 14, 2) := by decide +kernel
theorem dX12_restore_77 : decode YX12_restore.2.1 77 = .ok (.iload_n 1, 1) := by decide +kernel
theorem dX12_restore_78 : decode YX12_restore.2.1 78 = .ok (.imul, 1) := by decide +kernel
theorem dX12_restore_79 : decode YX12_restore.2.1 79 = .ok (.iload_n 2, 1) := by decide +kernel
theorem dX12_restore_80 : decode YX12_restore.2.1 80 = .ok (.iadd, 1) := by decide +kernel
theorem dX12_restore_81 : decode YX12_restore.2.1 81 = .ok (.laload, 1) := by decide +kernel
theorem dX12_restore_82 : decode YX12_restore.2.1 82 = .ok (.lastore, 1) := by decide +kernel
theorem dX12_restore_83 : decode YX12_restore.2.1 83 = .ok (.iinc 2 1, 3) := by decide +kernel
theorem dX12_restore_86 : decode YX12_restore.2.1 86 = .ok (.goto (-26), 3) := by decide +kernel
theorem dX12_restore_89 : decode YX12_restore.2.1 89 = .ok (.aload_n 0, 1) := by decide +kernel
theorem dX12_restore_90 : decode YX12_restore.2.1 90 = .ok (.invokevirtual 253, 3) := by decide +kernel
theorem dX12_restore_93 : decode YX12_restore.2.1 93 = .ok (.aload_n 0, 1) := by decide +kernel
theorem dX12_restore_94 : decode YX12_restore.2.1 94 = .ok (.iconst 0, 1) := by decide +kernel
theorem dX12_restore_95 : decode YX12_restore.2.1 95 = .ok (.putfield 256, 3) := by decide +kernel
theorem dX12_restore_98 : decode YX12_restore.2.1 98 = .ok (.iconst 1, 1) := by decide +kernel
theorem dX12_restore_99 : decode YX12_restore.2.1 99 = .ok (.ireturn, 1) := by decide +kernel
theorem dX12_ring_0 : decode YX12_ring.2.1 0 = .ok (.aload_n 0, 1) := by decide +kernel
theorem dX12_ring_1 : decode YX12_ring.2.1 1 = .ok (.iconst 0, 1) := by decide +kernel
theorem dX12_ring_2 : decode YX12_ring.2.1 2 = .ok (.putfield 1, 3) := by decide +kernel
theorem dX12_ring_5 : decode YX12_ring.2.1 5 = .ok (.aload_n 0, 1) := by decide +kernel
theorem dX12_ring_6 : decode YX12_ring.2.1 6 = .ok (.iload_n 1, 1) := by decide +kernel
theorem dX12_ring_7 : decode YX12_ring.2.1 7 = .ok (.invokevirtual 270, 3) := by decide +kernel
theorem dX12_ring_10 : decode YX12_ring.2.1 10 = .ok (.ifCond .eq 11, 3) := by decide +kernel
theorem dX12_ring_13 : decode YX12_ring.2.1 13 = .ok (.aload_n 0, 1) := by decide +kernel
theorem dX12_ring_14 : decode YX12_ring.2.1 14 = .ok (.iload_n 1, 1) := by decide +kernel
theorem dX12_ring_15 : decode YX12_ring.2.1 15 = .ok (.invokevirtual 286, 3) := by decide +kernel
theorem dX12_ring_18 : decode YX12_ring.2.1 18 = .ok (.goto 4, 3) := by decide +kernel
theorem dX12_ring_21 : decode YX12_ring.2.1 21 = .ok (.iconst (-1), 1) := by decide +kernel
theorem dX12_ring_22 : decode YX12_ring.2.1 22 = .ok (.ireturn, 1) := by decide +kernel
theorem dX12_ringOf_0 : decode YX12_ringOf.2.1 0 = .ok (.iconst 1, 1) := by decide +kernel
theorem dX12_ringOf_1 : decode YX12_ringOf.2.1 1 = .ok (.iload_n 1, 1) := by decide +kernel
theorem dX12_ringOf_2 : decode YX12_ringOf.2.1 2 = .ok (.ishl, 1) := by decide +kernel
theorem dX12_ringOf_3 : decode YX12_ringOf.2.1 3 = .ok (.istore_n 2, 1) := by decide +kernel
theorem dX12_ringOf_4 : decode YX12_ringOf.2.1 4 = .ok (.aload_n 0, 1) := by decide +kernel
theorem dX12_ringOf_5 : decode YX12_ringOf.2.1 5 = .ok (.iload_n 1, 1) := by decide +kernel
theorem dX12_ringOf_6 : decode YX12_ringOf.2.1 6 = .ok (.invokevirtual 266, 3) := by decide +kernel
theorem dX12_ringOf_9 : decode YX12_ringOf.2.1 9 = .ok (.istore_n 3, 1) := by decide +kernel
theorem dX12_ringOf_10 : decode YX12_ringOf.2.1 10 = .ok (.iload_n 3, 1) := by decide +kernel
theorem dX12_ringOf_11 : decode YX12_ringOf.2.1 11 = .ok (.ifCond .lt 26, 3) := by decide +kernel
theorem dX12_ringOf_14 : decode YX12_ringOf.2.1 14 = .ok (.iload_n 2, 1) := by decide +kernel
theorem dX12_ringOf_15 : decode YX12_ringOf.2.1 15 = .ok (.iload_n 3, 1) := by decide +kernel
theorem dX12_ringOf_16 : decode YX12_ringOf.2.1 16 = .ok (.invokestatic 235, 3) := by decide +kernel
theorem dX12_ringOf_19 : decode YX12_ringOf.2.1 19 = .ok (.ifCond .ne 18, 3) := by decide +kernel
theorem dX12_ringOf_22 : decode YX12_ringOf.2.1 22 = .ok (.iload_n 2, 1) := by decide +kernel
theorem dX12_ringOf_23 : decode YX12_ringOf.2.1 23 = .ok (.iconst 1, 1) := by decide +kernel
theorem dX12_ringOf_24 : decode YX12_ringOf.2.1 24 = .ok (.iload_n 3, 1) := by decide +kernel
theorem dX12_ringOf_25 : decode YX12_ringOf.2.1 25 = .ok (.ishl, 1) := by decide +kernel
theorem dX12_ringOf_26 : decode YX12_ringOf.2.1 26 = .ok (.ior, 1) := by decide +kernel
theorem dX12_ringOf_27 : decode YX12_ringOf.2.1 27 = .ok (.istore_n 2, 1) := by decide +kernel
theorem dX12_ringOf_28 : decode YX12_ringOf.2.1 28 = .ok (.aload_n 0, 1) := by decide +kernel
theorem dX12_ringOf_29 : decode YX12_ringOf.2.1 29 = .ok (.iload_n 3, 1) := by decide +kernel
theorem dX12_ringOf_30 : decode YX12_ringOf.2.1 30 = .ok (.invokevirtual 266, 3) := by decide +kernel
theorem dX12_ringOf_33 : decode YX12_ringOf.2.1 33 = .ok (.istore_n 3, 1) := by decide +kernel
theorem dX12_ringOf_34 : decode YX12_ringOf.2.1 34 = .ok (.goto (-24), 3) := by decide +kernel
theorem dX12_ringOf_37 : decode YX12_ringOf.2.1 37 = .ok (.iload_n 3, 1) := by decide +kernel
theorem dX12_ringOf_38 : decode YX12_ringOf.2.1 38 = .ok (.iload_n 1, 1) := by decide +kernel
theorem dX12_ringOf_39 : decode YX12_ringOf.2.1 39 = .ok (.if_icmp .ne 7, 3) := by decide +kernel
theorem dX12_ringOf_42 : decode YX12_ringOf.2.1 42 = .ok (.iload_n 2, 1) := by decide +kernel
theorem dX12_ringOf_43 : decode YX12_ringOf.2.1 43 = .ok (.goto 4, 3) := by decide +kernel
theorem dX12_ringOf_46 : decode YX12_ringOf.2.1 46 = .ok (.iconst 0, 1) := by decide +kernel
theorem dX12_ringOf_47 : decode YX12_ringOf.2.1 47 = .ok (.ireturn, 1) := by decide +kernel
theorem dX12_said_0 : decode YX12_said.2.1 0 = .ok (.aload_n 0, 1) := by decide +kernel
theorem dX12_said_1 : decode YX12_said.2.1 1 = .ok (.iconst 0, 1) := by decide +kernel
theorem dX12_said_2 : decode YX12_said.2.1 2 = .ok (.putfield 1, 3) := by decide +kernel
theorem dX12_said_5 : decode YX12_said.2.1 5 = .ok (.aload_n 0, 1) := by decide +kernel
theorem dX12_said_6 : decode YX12_said.2.1 6 = .ok (.getfield 33, 3) := by decide +kernel
theorem dX12_said_9 : decode YX12_said.2.1 9 = .ok (.sipush 216, 3) := by decide +kernel
theorem dX12_said_12 : decode YX12_said.2.1 12 = .ok (.iaload, 1) := by decide +kernel
theorem dX12_said_13 : decode YX12_said.2.1 13 = .ok (.ifCond .eq 8, 3) := by decide +kernel
theorem dX12_said_16 : decode YX12_said.2.1 16 = .ok (.iload_n 1, 1) := by decide +kernel
theorem dX12_said_17 : decode YX12_said.2.1 17 = .ok (.iconst (-1), 1) := by decide +kernel
theorem dX12_said_18 : decode YX12_said.2.1 18 = .ok (.if_icmp .ge 5, 3) := by decide +kernel
theorem dX12_said_21 : decode YX12_said.2.1 21 = .ok (.iconst (-1), 1) := by decide +kernel
theorem dX12_said_22 : decode YX12_said.2.1 22 = .ok (.ireturn, 1) := by decide +kernel
theorem dX12_said_23 : decode YX12_said.2.1 23 = .ok (.iconst 0, 1) := by decide +kernel
theorem dX12_said_24 : decode YX12_said.2.1 24 = .ok (.istore_n 2, 1) := by decide +kernel
theorem dX12_said_25 : decode YX12_said.2.1 25 = .ok (.iconst 0, 1) := by decide +kernel
theorem dX12_said_26 : decode YX12_said.2.1 26 = .ok (.istore_n 3, 1) := by decide +kernel
theorem dX12_said_27 : decode YX12_said.2.1 27 = .ok (.iload_n 3, 1) := by decide +kernel
theorem dX12_said_28 : decode YX12_said.2.1 28 = .ok (.aload_n 0, 1) := by decide +kernel
theorem dX12_said_29 : decode YX12_said.2.1 29 = .ok (.getfield 33, 3) := by decide +kernel
theorem dX12_said_32 : decode YX12_said.2.1 32 = .ok (.iconst 2, 1) := by decide +kernel
theorem dX12_said_33 : decode YX12_said.2.1 33 = .ok (.iaload, 1) := by decide +kernel
theorem dX12_said_34 : decode YX12_said.2.1 34 = .ok (.if_icmp .ge 30, 3) := by decide +kernel
theorem dX12_said_37 : decode YX12_said.2.1 37 = .ok (.aload_n 0, 1) := by decide +kernel
theorem dX12_said_38 : decode YX12_said.2.1 38 = .ok (.iload_n 3, 1) := by decide +kernel
theorem dX12_said_39 : decode YX12_said.2.1 39 = .ok (.invokevirtual 466, 3) := by decide +kernel
theorem dX12_said_42 : decode YX12_said.2.1 42 = .ok (.ifCond .ne 6, 3) := by decide +kernel
theorem dX12_said_45 : decode YX12_said.2.1 45 = .ok (.goto 13, 3) := by decide +kernel
theorem dX12_said_48 : decode YX12_said.2.1 48 = .ok (.iload_n 2, 1) := by decide +kernel
theorem dX12_said_49 : decode YX12_said.2.1 49 = .ok (.iload_n 1, 1) := by decide +kernel
theorem dX12_said_50 : decode YX12_said.2.1 50 = .ok (.if_icmp .ne 5, 3) := by decide +kernel
theorem dX12_said_53 : decode YX12_said.2.1 53 = .ok (.iload_n 3, 1) := by decide +kernel
theorem dX12_said_54 : decode YX12_said.2.1 54 = .ok (.ireturn, 1) := by decide +kernel
theorem dX12_said_55 : decode YX12_said.2.1 55 = .ok (.iinc 2 1, 3) := by decide +kernel
theorem dX12_said_58 : decode YX12_said.2.1 58 = .ok (.iinc 3 1, 3) := by decide +kernel
theorem dX12_said_61 : decode YX12_said.2.1 61 = .ok (.goto (-34), 3) := by decide +kernel
theorem dX12_said_64 : decode YX12_said.2.1 64 = .ok (.iload_n 1, 1) := by decide +kernel
theorem dX12_said_65 : decode YX12_said.2.1 65 = .ok (.iconst (-1), 1) := by decide +kernel
theorem dX12_said_66 : decode YX12_said.2.1 66 = .ok (.if_icmp .ne 7, 3) := by decide +kernel
theorem dX12_said_69 : decode YX12_said.2.1 69 = .ok (.iload_n 2, 1) := by decide +kernel
theorem dX12_said_70 : decode YX12_said.2.1 70 = .ok (.goto 4, 3) := by decide +kernel
theorem dX12_said_73 : decode YX12_said.2.1 73 = .ok (.iconst (-1), 1) := by decide +kernel
theorem dX12_said_74 : decode YX12_said.2.1 74 = .ok (.ireturn, 1) := by decide +kernel
theorem dX12_says_0 : decode YX12_says.2.1 0 = .ok (.aload_n 0, 1) := by decide +kernel
theorem dX12_says_1 : decode YX12_says.2.1 1 = .ok (.bipush 32, 2) := by decide +kernel
theorem dX12_says_3 : decode YX12_says.2.1 3 = .ok (.invokevirtual 391, 3) := by decide +kernel
theorem dX12_says_6 : decode YX12_says.2.1 6 = .ok (.aload_n 0, 1) := by decide +kernel
theorem dX12_says_7 : decode YX12_says.2.1 7 = .ok (.lload_n 1, 1) := by decide +kernel
theorem dX12_says_8 : decode YX12_says.2.1 8 = .ok (.invokevirtual 394, 3) := by decide +kernel
theorem dX12_says_11 : decode YX12_says.2.1 11 = .ok (.return_, 1) := by decide +kernel
theorem dX12_seek_0 : decode YX12_seek.2.1 0 = .ok (.iconst 0, 1) := by decide +kernel
theorem dX12_seek_1 : decode YX12_seek.2.1 1 = .ok (.istore_n 3, 1) := by decide +kernel
theorem dX12_seek_2 : decode YX12_seek.2.1 2 = .ok (.iload_n 3, 1) := by decide +kernel
theorem dX12_seek_3 : decode YX12_seek.2.1 3 = .ok (.iload_n 2, 1) := by decide +kernel
theorem dX12_seek_4 : decode YX12_seek.2.1 4 = .ok (.if_icmp .ge 27, 3) := by decide +kernel
theorem dX12_seek_7 : decode YX12_seek.2.1 7 = .ok (.aload_n 0, 1) := by decide +kernel
theorem dX12_seek_8 : decode YX12_seek.2.1 8 = .ok (.getfield 43, 3) := by decide +kernel
theorem dX12_seek_11 : decode YX12_seek.2.1 11 = .ok (.iload_n 1, 1) := by decide +kernel
theorem dX12_seek_12 : decode YX12_seek.2.1 12 = .ok (.iload_n 3, 1) := by decide +kernel
theorem dX12_seek_13 : decode YX12_seek.2.1 13 = .ok (.iadd, 1) := by decide +kernel
theorem dX12_seek_14 : decode YX12_seek.2.1 14 = .ok (.laload, 1) := by decide +kernel
theorem dX12_seek_15 : decode YX12_seek.2.1 15 = .ok (.aload_n 0, 1) := by decide +kernel
theorem dX12_seek_16 : decode YX12_seek.2.1 16 = .ok (.getfield 169, 3) := by decide +kernel
theorem dX12_seek_19 : decode YX12_seek.2.1 19 = .ok (.lcmp, 1) := by decide +kernel
theorem dX12_seek_20 : decode YX12_seek.2.1 20 = .ok (.ifCond .ne 5, 3) := by decide +kernel
theorem dX12_seek_23 : decode YX12_seek.2.1 23 = .ok (.iload_n 3, 1) := by decide +kernel
theorem dX12_seek_24 : decode YX12_seek.2.1 24 = .ok (.ireturn, 1) := by decide +kernel
theorem dX12_seek_25 : decode YX12_seek.2.1 25 = .ok (.iinc 3 1, 3) := by decide +kernel
theorem dX12_seek_28 : decode YX12_seek.2.1 28 = .ok (.goto (-26), 3) := by decide +kernel
theorem dX12_seek_31 : decode YX12_seek.2.1 31 = .ok (.iconst (-1), 1) := by decide +kernel
theorem dX12_seek_32 : decode YX12_seek.2.1 32 = .ok (.ireturn, 1) := by decide +kernel
theorem dX12_send_0 : decode YX12_send.2.1 0 = .ok (.aload_n 0, 1) := by decide +kernel
theorem dX12_send_1 : decode YX12_send.2.1 1 = .ok (.iconst 0, 1) := by decide +kernel
theorem dX12_send_2 : decode YX12_send.2.1 2 = .ok (.putfield 1, 3) := by decide +kernel
theorem dX12_send_5 : decode YX12_send.2.1 5 = .ok (.aload_n 0, 1) := by decide +kernel
theorem dX12_send_6 : decode YX12_send.2.1 6 = .ok (.iload_n 1, 1) := by decide +kernel
theorem dX12_send_7 : decode YX12_send.2.1 7 = .ok (.invokevirtual 270, 3) := by decide +kernel
theorem dX12_send_10 : decode YX12_send.2.1 10 = .ok (.ifCond .eq 11, 3) := by decide +kernel
theorem dX12_send_13 : decode YX12_send.2.1 13 = .ok (.aload_n 0, 1) := by decide +kernel
theorem dX12_send_14 : decode YX12_send.2.1 14 = .ok (.iload_n 2, 1) := by decide +kernel
theorem dX12_send_15 : decode YX12_send.2.1 15 = .ok (.invokevirtual 283, 3) := by decide +kernel
theorem dX12_send_18 : decode YX12_send.2.1 18 = .ok (.ifCond .ne 5, 3) := by decide +kernel
theorem dX12_send_21 : decode YX12_send.2.1 21 = .ok (.iconst (-1), 1) := by decide +kernel
theorem dX12_send_22 : decode YX12_send.2.1 22 = .ok (.ireturn, 1) := by decide +kernel
theorem dX12_send_23 : decode YX12_send.2.1 23 = .ok (.aload_n 0, 1) := by decide +kernel
theorem dX12_send_24 : decode YX12_send.2.1 24 = .ok (.iload_n 1, 1) := by decide +kernel
theorem dX12_send_25 : decode YX12_send.2.1 25 = .ok (.iload_n 2, 1) := by decide +kernel
theorem dX12_send_26 : decode YX12_send.2.1 26 = .ok (.invokevirtual 301, 3) := by decide +kernel
theorem dX12_send_29 : decode YX12_send.2.1 29 = .ok (.istore_n 3, 1) := by decide +kernel
theorem dX12_send_30 : decode YX12_send.2.1 30 = .ok (.iload_n 3, 1) := by decide +kernel
theorem dX12_send_31 : decode YX12_send.2.1 31 = .ok (.ifCond .le 5, 3) := by decide +kernel
theorem dX12_send_34 : decode YX12_send.2.1 34 = .ok (.iload_n 3, 1) := by decide +kernel
theorem dX12_send_35 : decode YX12_send.2.1 35 = .ok (.ireturn, 1) := by decide +kernel
theorem dX12_send_36 : decode YX12_send.2.1 36 = .ok (.aload_n 0, 1) := by decide +kernel
theorem dX12_send_37 : decode YX12_send.2.1 37 = .ok (.invokevirtual 304, 3) := by decide +kernel
theorem dX12_send_40 : decode YX12_send.2.1 40 = .ok (.aload_n 0, 1) := by decide +kernel
theorem dX12_send_41 : decode YX12_send.2.1 41 = .ok (.iload_n 1, 1) := by decide +kernel
theorem dX12_send_42 : decode YX12_send.2.1 42 = .ok (.iload_n 2, 1) := by decide +kernel
theorem dX12_send_43 : decode YX12_send.2.1 43 = .ok (.invokevirtual 307, 3) := by decide +kernel
theorem dX12_send_46 : decode YX12_send.2.1 46 = .ok (.iconst 0, 1) := by decide +kernel
theorem dX12_send_47 : decode YX12_send.2.1 47 = .ok (.ireturn, 1) := by decide +kernel
theorem dX12_sends_0 : decode YX12_sends.2.1 0 = .ok (.aload_n 0, 1) := by decide +kernel
theorem dX12_sends_1 : decode YX12_sends.2.1 1 = .ok (.getfield 33, 3) := by decide +kernel
theorem dX12_sends_4 : decode YX12_sends.2.1 4 = .ok (.sipush 151, 3) := by decide +kernel
theorem dX12_sends_7 : decode YX12_sends.2.1 7 = .ok (.bipush 8, 2) := by decide +kernel
theorem dX12_sends_9 : decode YX12_sends.2.1 9 = .ok (.iload_n 1, 1) := by decide +kernel
theorem dX12_sends_10 : decode YX12_sends.2.1 10 = .ok (.imul, 1) := by decide +kernel
theorem dX12_sends_11 : decode YX12_sends.2.1 11 = .ok (.iadd, 1) := by decide +kernel
theorem dX12_sends_12 : decode YX12_sends.2.1 12 = .ok (.aload_n 0, 1) := by decide +kernel
theorem dX12_sends_13 : decode YX12_sends.2.1 13 = .ok (.getfield 33, 3) := by decide +kernel
theorem dX12_sends_16 : decode YX12_sends.2.1 16 = .ok (.sipush 145, 3) := by decide +kernel
theorem dX12_sends_19 : decode YX12_sends.2.1 19 = .ok (.iload_n 1, 1) := by decide +kernel
theorem dX12_sends_20 : decode YX12_sends.2.1 20 = .ok (.iadd, 1) := by decide +kernel
theorem dX12_sends_21 : decode YX12_sends.2.1 21 = .ok (.iaload, 1) := by decide +kernel
theorem dX12_sends_22 : decode YX12_sends.2.1 22 = .ok (.iadd, 1) := by decide +kernel
theorem dX12_sends_23 : decode YX12_sends.2.1 23 = .ok (.iload_n 2, 1) := by decide +kernel
theorem dX12_sends_24 : decode YX12_sends.2.1 24 = .ok (.iastore, 1) := by decide +kernel
theorem dX12_sends_25 : decode YX12_sends.2.1 25 = .ok (.aload_n 0, 1) := by decide +kernel
theorem dX12_sends_26 : decode YX12_sends.2.1 26 = .ok (.getfield 33, 3) := by decide +kernel
theorem dX12_sends_29 : decode YX12_sends.2.1 29 = .ok (.sipush 145, 3) := by decide +kernel
theorem dX12_sends_32 : decode YX12_sends.2.1 32 = .ok (.iload_n 1, 1) := by decide +kernel
theorem dX12_sends_33 : decode YX12_sends.2.1 33 = .ok (.iadd, 1) := by decide +kernel
theorem dX12_sends_34 : decode YX12_sends.2.1 34 = .ok (.dup2, 1) := by decide +kernel
theorem dX12_sends_35 : decode YX12_sends.2.1 35 = .ok (.iaload, 1) := by decide +kernel
theorem dX12_sends_36 : decode YX12_sends.2.1 36 = .ok (.iconst 1, 1) := by decide +kernel
theorem dX12_sends_37 : decode YX12_sends.2.1 37 = .ok (.iadd, 1) := by decide +kernel
theorem dX12_sends_38 : decode YX12_sends.2.1 38 = .ok (.iastore, 1) := by decide +kernel
theorem dX12_sends_39 : decode YX12_sends.2.1 39 = .ok (.return_, 1) := by decide +kernel
theorem dX12_sentence_0 : decode YX12_sentence.2.1 0 = .ok (.aload_n 0, 1) := by decide +kernel
theorem dX12_sentence_1 : decode YX12_sentence.2.1 1 = .ok (.iconst 0, 1) := by decide +kernel
theorem dX12_sentence_2 : decode YX12_sentence.2.1 2 = .ok (.putfield 1, 3) := by decide +kernel
theorem dX12_sentence_5 : decode YX12_sentence.2.1 5 = .ok (.aload_n 0, 1) := by decide +kernel
theorem dX12_sentence_6 : decode YX12_sentence.2.1 6 = .ok (.sipush 200, 3) := by decide +kernel
theorem dX12_sentence_9 : decode YX12_sentence.2.1 9 = .ok (.invokevirtual 241, 3) := by decide +kernel
theorem dX12_sentence_12 : decode YX12_sentence.2.1 12 = .ok (.aload_n 0, 1) := by decide +kernel
theorem dX12_sentence_13 : decode YX12_sentence.2.1 13 = .ok (.iconst 0, 1) := by decide +kernel
theorem dX12_sentence_14 : decode YX12_sentence.2.1 14 = .ok (.putfield 173, 3) := by decide +kernel
theorem dX12_sentence_17 : decode YX12_sentence.2.1 17 = .ok (.aload_n 0, 1) := by decide +kernel
theorem dX12_sentence_18 : decode YX12_sentence.2.1 18 = .ok (.iconst 0, 1) := by decide +kernel
theorem dX12_sentence_19 : decode YX12_sentence.2.1 19 = .ok (.putfield 429, 3) := by decide +kernel
theorem dX12_sentence_22 : decode YX12_sentence.2.1 22 = .ok (.aload_n 0, 1) := by decide +kernel
theorem dX12_sentence_23 : decode YX12_sentence.2.1 23 = .ok (.iconst 0, 1) := by decide +kernel
theorem dX12_sentence_24 : decode YX12_sentence.2.1 24 = .ok (.putfield 444, 3) := by decide +kernel
theorem dX12_sentence_27 : decode YX12_sentence.2.1 27 = .ok (.aload_n 0, 1) := by decide +kernel
theorem dX12_sentence_28 : decode YX12_sentence.2.1 28 = .ok (.iconst 0, 1) := by decide +kernel
theorem dX12_sentence_29 : decode YX12_sentence.2.1 29 = .ok (.putfield 432, 3) := by decide +kernel
theorem dX12_sentence_32 : decode YX12_sentence.2.1 32 = .ok (.aload_n 0, 1) := by decide +kernel
theorem dX12_sentence_33 : decode YX12_sentence.2.1 33 = .ok (.iconst 1, 1) := by decide +kernel
theorem dX12_sentence_34 : decode YX12_sentence.2.1 34 = .ok (.putfield 438, 3) := by decide +kernel
theorem dX12_sentence_37 : decode YX12_sentence.2.1 37 = .ok (.aload_n 0, 1) := by decide +kernel
theorem dX12_sentence_38 : decode YX12_sentence.2.1 38 = .ok (.iconst 0, 1) := by decide +kernel
theorem dX12_sentence_39 : decode YX12_sentence.2.1 39 = .ok (.putfield 447, 3) := by decide +kernel
theorem dX12_sentence_42 : decode YX12_sentence.2.1 42 = .ok (.aload_n 0, 1) := by decide +kernel
theorem dX12_sentence_43 : decode YX12_sentence.2.1 43 = .ok (.invokevirtual 185, 3) := by decide +kernel
theorem dX12_sentence_46 : decode YX12_sentence.2.1 46 = .ok (.iconst 1, 1) := by decide +kernel
theorem dX12_sentence_47 : decode YX12_sentence.2.1 47 = .ok (.istore_n 1, 1) := by decide +kernel
theorem dX12_sentence_48 : decode YX12_sentence.2.1 48 = .ok (.iload_n 1, 1) := by decide +kernel
theorem dX12_sentence_49 : decode YX12_sentence.2.1 49 = .ok (.ifCond .eq 83, 3) := by decide +kernel
theorem dX12_sentence_52 : decode YX12_sentence.2.1 52 = .ok (.aload_n 0, 1) := by decide +kernel
theorem dX12_sentence_53 : decode YX12_sentence.2.1 53 = .ok (.getfield 447, 3) := by decide +kernel
theorem dX12_sentence_56 : decode YX12_sentence.2.1 56 = .ok (.ifCond .eq 45, 3) := by decide +kernel
theorem dX12_sentence_59 : decode YX12_sentence.2.1 59 = .ok (.aload_n 0, 1) := by decide +kernel
theorem dX12_sentence_60 : decode YX12_sentence.2.1 60 = .ok (.getfield 156, 3) := by decide +kernel
theorem dX12_sentence_63 : decode YX12_sentence.2.1 63 = .ok (.ifCond .ne 38, 3) := by decide +kernel
theorem dX12_sentence_66 : decode YX12_sentence.2.1 66 = .ok (.aload_n 0, 1) := by decide +kernel
theorem dX12_sentence_67 : decode YX12_sentence.2.1 67 = .ok (.invokevirtual 450, 3) := by decide +kernel
theorem dX12_sentence_70 : decode YX12_sentence.2.1 70 = .ok (.aload_n 0, 1) := by decide +kernel
theorem dX12_sentence_71 : decode YX12_sentence.2.1 71 = .ok (.bipush 22, 2) := by decide +kernel
theorem dX12_sentence_73 : decode YX12_sentence.2.1 73 = .ok (.invokevirtual 453, 3) := by decide +kernel
theorem dX12_sentence_76 : decode YX12_sentence.2.1 76 = .ok (.aload_n 0, 1) := by decide +kernel
theorem dX12_sentence_77 : decode YX12_sentence.2.1 77 = .ok (.getfield 432, 3) := by decide +kernel
theorem dX12_sentence_80 : decode YX12_sentence.2.1 80 = .ok (.ifCond .le 16, 3) := by decide +kernel
theorem dX12_sentence_83 : decode YX12_sentence.2.1 83 = .ok (.aload_n 0, 1) := by decide +kernel
theorem dX12_sentence_84 : decode YX12_sentence.2.1 84 = .ok (.iconst 1, 1) := by decide +kernel
theorem dX12_sentence_85 : decode YX12_sentence.2.1 85 = .ok (.invokevirtual 182, 3) := by decide +kernel
theorem dX12_sentence_88 : decode YX12_sentence.2.1 88 = .ok (.pop, 1) := by decide +kernel
theorem dX12_sentence_89 : decode YX12_sentence.2.1 89 = .ok (.iconst (-1), 1) := by decide +kernel
theorem dX12_sentence_90 : decode YX12_sentence.2.1 90 = .ok (.aload_n 0, 1) := by decide +kernel
theorem dX12_sentence_91 : decode YX12_sentence.2.1 91 = .ok (.getfield 176, 3) := by decide +kernel
theorem dX12_sentence_94 : decode YX12_sentence.2.1 94 = .ok (.isub, 1) := by decide +kernel
theorem dX12_sentence_95 : decode YX12_sentence.2.1 95 = .ok (.ireturn, 1) := by decide +kernel
theorem dX12_sentence_96 : decode YX12_sentence.2.1 96 = .ok (.iconst 0, 1) := by decide +kernel
theorem dX12_sentence_97 : decode YX12_sentence.2.1 97 = .ok (.istore_n 1, 1) := by decide +kernel
theorem dX12_sentence_98 : decode YX12_sentence.2.1 98 = .ok (.goto (-50), 3) := by decide +kernel
theorem dX12_sentence_101 : decode YX12_sentence.2.1 101 = .ok (.aload_n 0, 1) := by decide +kernel
theorem dX12_sentence_102 : decode YX12_sentence.2.1 102 = .ok (.getfield 447, 3) := by decide +kernel
theorem dX12_sentence_105 : decode YX12_sentence.2.1 105 = .ok (.ifCond .eq 13, 3) := by decide +kernel
theorem dX12_sentence_108 : decode YX12_sentence.2.1 108 = .ok (.aload_n 0, 1) := by decide +kernel
theorem dX12_sentence_109 : decode YX12_sentence.2.1 109 = .ok (.invokevirtual 456, 3) := by decide +kernel
theorem dX12_sentence_112 : decode YX12_sentence.2.1 112 = .ok (.ifCond .ne (-64), 3) := by decide +kernel
theorem dX12_sentence_115 : decode YX12_sentence.2.1 115 = .ok (.goto 10, 3) := by decide +kernel
theorem dX12_sentence_118 : decode YX12_sentence.2.1 118 = .ok (.aload_n 0, 1) := by decide +kernel
theorem dX12_sentence_119 : decode YX12_sentence.2.1 119 = .ok (.invokevirtual 459, 3) := by decide +kernel
theorem dX12_sentence_122 : decode YX12_sentence.2.1 122 = .ok (.ifCond .ne (-74), 3) := by decide +kernel
theorem dX12_sentence_125 : decode YX12_sentence.2.1 125 = .ok (.iconst (-1), 1) := by decide +kernel
theorem dX12_sentence_126 : decode YX12_sentence.2.1 126 = .ok (.aload_n 0, 1) := by decide +kernel
theorem dX12_sentence_127 : decode YX12_sentence.2.1 127 = .ok (.getfield 176, 3) := by decide +kernel
theorem dX12_sentence_130 : decode YX12_sentence.2.1 130 = .ok (.isub, 1) := by decide +kernel
theorem dX12_sentence_131 : decode YX12_sentence.2.1 131 = .ok (.ireturn, 1) := by decide +kernel
theorem dX12_sentence_132 : decode YX12_sentence.2.1 132 = .ok (.aload_n 0, 1) := by decide +kernel
theorem dX12_sentence_133 : decode YX12_sentence.2.1 133 = .ok (.getfield 33, 3) := by decide +kernel
theorem dX12_sentence_136 : decode YX12_sentence.2.1 136 = .ok (.sipush 216, 3) := by decide +kernel
theorem dX12_sentence_139 : decode YX12_sentence.2.1 139 = .ok (.aload_n 0, 1) := by decide +kernel
theorem dX12_sentence_140 : decode YX12_sentence.2.1 140 = .ok (.getfield 429, 3) := by decide +kernel
theorem dX12_sentence_143 : decode YX12_sentence.2.1 143 = .ok (.iastore, 1) := by decide +kernel
theorem dX12_sentence_144 : decode YX12_sentence.2.1 144 = .ok (.iconst 0, 1) := by decide +kernel
theorem dX12_sentence_145 : decode YX12_sentence.2.1 145 = .ok (.istore_n 2, 1) := by decide +kernel
theorem dX12_sentence_146 : decode YX12_sentence.2.1 146 = .ok (.iload_n 2, 1) := by decide +kernel
theorem dX12_sentence_147 : decode YX12_sentence.2.1 147 = .ok (.iconst 3, 1) := by decide +kernel
theorem dX12_sentence_148 : decode YX12_sentence.2.1 148 = .ok (.aload_n 0, 1) := by decide +kernel
theorem dX12_sentence_149 : decode YX12_sentence.2.1 149 = .ok (.getfield 429, 3) := by decide +kernel
theorem dX12_sentence_152 : decode YX12_sentence.2.1 152 = .ok (.imul, 1) := by decide +kernel
theorem dX12_sentence_153 : decode YX12_sentence.2.1 153 = .ok (.if_icmp .ge 25, 3) := by decide +kernel
theorem dX12_sentence_156 : decode YX12_sentence.2.1 156 = .ok (.aload_n 0, 1) := by decide +kernel
theorem dX12_sentence_157 : decode YX12_sentence.2.1 157 = .ok (.getfield 33, 3) := by decide +kernel
theorem dX12_sentence_160 : decode YX12_sentence.2.1 160 = .ok (.sipush 217, 3) := by decide +kernel
theorem dX12_sentence_163 : decode YX12_sentence.2.1 163 = .ok (.iload_n 2, 1) := by decide +kernel
theorem dX12_sentence_164 : decode YX12_sentence.2.1 164 = .ok (.iadd, 1) := by decide +kernel
theorem dX12_sentence_165 : decode YX12_sentence.2.1 165 = .ok (.aload_n 0, 1) := by decide +kernel
theorem dX12_sentence_166 : decode YX12_sentence.2.1 166 = .ok (.getfield 40, 3) := by decide +kernel
theorem dX12_sentence_169 : decode YX12_sentence.2.1 169 = .ok (.iload_n 2, 1) := by decide +kernel
theorem dX12_sentence_170 : decode YX12_sentence.2.1 170 = .ok (.iaload, 1) := by decide +kernel
theorem dX12_sentence_171 : decode YX12_sentence.2.1 171 = .ok (.iastore, 1) := by decide +kernel
theorem dX12_sentence_172 : decode YX12_sentence.2.1 172 = .ok (.iinc 2 1, 3) := by decide +kernel
theorem dX12_sentence_175 : decode YX12_sentence.2.1 175 = .ok (.goto (-29), 3) := by decide +kernel
theorem dX12_sentence_178 : decode YX12_sentence.2.1 178 = .ok (.aload_n 0, 1) := by decide +kernel
theorem dX12_sentence_179 : decode YX12_sentence.2.1 179 = .ok (.getfield 444, 3) := by decide +kernel
theorem dX12_sentence_182 : decode YX12_sentence.2.1 182 = .ok (.ireturn, 1) := by decide +kernel
theorem dX12_sign_0 : decode YX12_sign.2.1 0 = .ok (.aload_n 0, 1) := by decide +kernel
theorem dX12_sign_1 : decode YX12_sign.2.1 1 = .ok (.iload_n 1, 1) := by decide +kernel
theorem dX12_sign_2 : decode YX12_sign.2.1 2 = .ok (.invokevirtual 179, 3) := by decide +kernel
theorem dX12_sign_5 : decode YX12_sign.2.1 5 = .ok (.ifCond .ne 9, 3) := by decide +kernel
theorem dX12_sign_8 : decode YX12_sign.2.1 8 = .ok (.aload_n 0, 1) := by decide +kernel
theorem dX12_sign_9 : decode YX12_sign.2.1 9 = .ok (.iconst 1, 1) := by decide +kernel
theorem dX12_sign_10 : decode YX12_sign.2.1 10 = .ok (.invokevirtual 182, 3) := by decide +kernel
theorem dX12_sign_13 : decode YX12_sign.2.1 13 = .ok (.ireturn, 1) := by decide +kernel
theorem dX12_sign_14 : decode YX12_sign.2.1 14 = .ok (.aload_n 0, 1) := by decide +kernel
theorem dX12_sign_15 : decode YX12_sign.2.1 15 = .ok (.invokevirtual 185, 3) := by decide +kernel
theorem dX12_sign_18 : decode YX12_sign.2.1 18 = .ok (.iconst 1, 1) := by decide +kernel
theorem dX12_sign_19 : decode YX12_sign.2.1 19 = .ok (.ireturn, 1) := by decide +kernel
theorem dX12_spells_0 : decode YX12_spells.2.1 0 = .ok (.bipush 56, 2) := by decide +kernel
theorem dX12_spells_2 : decode YX12_spells.2.1 2 = .ok (.istore_n 3, 1) := by decide +kernel
theorem dX12_spells_3 : decode YX12_spells.2.1 3 = .ok (.iload_n 3, 1) := by decide +kernel
theorem dX12_spells_4 : decode YX12_spells.2.1 4 = .ok (.ifCond .lt 33, 3) := by decide +kernel
theorem dX12_spells_7 : decode YX12_spells.2.1 7 = .ok (.lload_n 1, 1) := by decide +kernel
theorem dX12_spells_8 : decode YX12_spells.2.1 8 = .ok (.iload_n 3, 1) := by decide +kernel
theorem dX12_spells_9 : decode YX12_spells.2.1 9 = .ok (.lshr, 1) := by decide +kernel
theorem dX12_spells_10 : decode YX12_spells.2.1 10 = .ok (.ldc2_w 389, 3) := by decide +kernel
theorem dX12_spells_13 : decode YX12_spells.2.1 13 = .ok (.land, 1) := by decide +kernel
theorem dX12_spells_14 : decode YX12_spells.2.1 14 = .ok (.lconst 0, 1) := by decide +kernel
theorem dX12_spells_15 : decode YX12_spells.2.1 15 = .ok (.lcmp, 1) := by decide +kernel
theorem dX12_spells_16 : decode YX12_spells.2.1 16 = .ok (.ifCond .eq 15, 3) := by decide +kernel
theorem dX12_spells_19 : decode YX12_spells.2.1 19 = .ok (.aload_n 0, 1) := by decide +kernel
theorem dX12_spells_20 : decode YX12_spells.2.1 20 = .ok (.lload_n 1, 1) := by decide +kernel
theorem dX12_spells_21 : decode YX12_spells.2.1 21 = .ok (.iload_n 3, 1) := by decide +kernel
theorem dX12_spells_22 : decode YX12_spells.2.1 22 = .ok (.lshr, 1) := by decide +kernel
theorem dX12_spells_23 : decode YX12_spells.2.1 23 = .ok (.ldc2_w 389, 3) := by decide +kernel
theorem dX12_spells_26 : decode YX12_spells.2.1 26 = .ok (.land, 1) := by decide +kernel
theorem dX12_spells_27 : decode YX12_spells.2.1 27 = .ok (.l2i, 1) := by decide +kernel
theorem dX12_spells_28 : decode YX12_spells.2.1 28 = .ok (.invokevirtual 391, 3) := by decide +kernel
theorem dX12_spells_31 : decode YX12_spells.2.1 31 = .ok (.iinc 3 (-8), 3) := by decide +kernel
theorem dX12_spells_34 : decode YX12_spells.2.1 34 = .ok (.goto (-31), 3) := by decide +kernel
theorem dX12_spells_37 : decode YX12_spells.2.1 37 = .ok (.return_, 1) := by decide +kernel
theorem dX12_taken_0 : decode YX12_taken.2.1 0 = .ok (.aload_n 0, 1) := by decide +kernel
theorem dX12_taken_1 : decode YX12_taken.2.1 1 = .ok (.aload_n 0, 1) := by decide +kernel
theorem dX12_taken_2 : decode YX12_taken.2.1 2 = .ok (.getfield 7, 3) := by decide +kernel
theorem dX12_taken_5 : decode YX12_taken.2.1 5 = .ok (.putfield 18, 3) := by decide +kernel
theorem dX12_taken_8 : decode YX12_taken.2.1 8 = .ok (.aload_n 0, 1) := by decide +kernel
theorem dX12_taken_9 : decode YX12_taken.2.1 9 = .ok (.iconst 0, 1) := by decide +kernel
theorem dX12_taken_10 : decode YX12_taken.2.1 10 = .ok (.putfield 7, 3) := by decide +kernel
theorem dX12_taken_13 : decode YX12_taken.2.1 13 = .ok (.aload_n 0, 1) := by decide +kernel
theorem dX12_taken_14 : decode YX12_taken.2.1 14 = .ok (.iconst 0, 1) := by decide +kernel
theorem dX12_taken_15 : decode YX12_taken.2.1 15 = .ok (.putfield 21, 3) := by decide +kernel
theorem dX12_taken_18 : decode YX12_taken.2.1 18 = .ok (.aload_n 0, 1) := by decide +kernel
theorem dX12_taken_19 : decode YX12_taken.2.1 19 = .ok (.iload_n 1, 1) := by decide +kernel
theorem dX12_taken_20 : decode YX12_taken.2.1 20 = .ok (.putfield 24, 3) := by decide +kernel
theorem dX12_taken_23 : decode YX12_taken.2.1 23 = .ok (.return_, 1) := by decide +kernel
theorem dX12_takes_0 : decode YX12_takes.2.1 0 = .ok (.aload_n 0, 1) := by decide +kernel
theorem dX12_takes_1 : decode YX12_takes.2.1 1 = .ok (.getfield 156, 3) := by decide +kernel
theorem dX12_takes_4 : decode YX12_takes.2.1 4 = .ok (.iconst 2, 1) := by decide +kernel
theorem dX12_takes_5 : decode YX12_takes.2.1 5 = .ok (.if_icmp .eq 9, 3) := by decide +kernel
theorem dX12_takes_8 : decode YX12_takes.2.1 8 = .ok (.aload_n 0, 1) := by decide +kernel
theorem dX12_takes_9 : decode YX12_takes.2.1 9 = .ok (.iconst 1, 1) := by decide +kernel
theorem dX12_takes_10 : decode YX12_takes.2.1 10 = .ok (.invokevirtual 182, 3) := by decide +kernel
theorem dX12_takes_13 : decode YX12_takes.2.1 13 = .ok (.ireturn, 1) := by decide +kernel
theorem dX12_takes_14 : decode YX12_takes.2.1 14 = .ok (.aload_n 0, 1) := by decide +kernel
theorem dX12_takes_15 : decode YX12_takes.2.1 15 = .ok (.getfield 166, 3) := by decide +kernel
theorem dX12_takes_18 : decode YX12_takes.2.1 18 = .ok (.iload_n 1, 1) := by decide +kernel
theorem dX12_takes_19 : decode YX12_takes.2.1 19 = .ok (.iload_n 2, 1) := by decide +kernel
theorem dX12_takes_20 : decode YX12_takes.2.1 20 = .ok (.invokestatic 188, 3) := by decide +kernel
theorem dX12_takes_23 : decode YX12_takes.2.1 23 = .ok (.ifCond .ne 9, 3) := by decide +kernel
theorem dX12_takes_26 : decode YX12_takes.2.1 26 = .ok (.aload_n 0, 1) := by decide +kernel
theorem dX12_takes_27 : decode YX12_takes.2.1 27 = .ok (.iconst 2, 1) := by decide +kernel
theorem dX12_takes_28 : decode YX12_takes.2.1 28 = .ok (.invokevirtual 182, 3) := by decide +kernel
theorem dX12_takes_31 : decode YX12_takes.2.1 31 = .ok (.ireturn, 1) := by decide +kernel
theorem dX12_takes_32 : decode YX12_takes.2.1 32 = .ok (.aload_n 0, 1) := by decide +kernel
theorem dX12_takes_33 : decode YX12_takes.2.1 33 = .ok (.aload_n 0, 1) := by decide +kernel
theorem dX12_takes_34 : decode YX12_takes.2.1 34 = .ok (.getfield 166, 3) := by decide +kernel
theorem dX12_takes_37 : decode YX12_takes.2.1 37 = .ok (.putfield 192, 3) := by decide +kernel
theorem dX12_takes_40 : decode YX12_takes.2.1 40 = .ok (.aload_n 0, 1) := by decide +kernel
theorem dX12_takes_41 : decode YX12_takes.2.1 41 = .ok (.invokevirtual 185, 3) := by decide +kernel
theorem dX12_takes_44 : decode YX12_takes.2.1 44 = .ok (.iconst 1, 1) := by decide +kernel
theorem dX12_takes_45 : decode YX12_takes.2.1 45 = .ok (.ireturn, 1) := by decide +kernel
theorem dX12_takesName_0 : decode YX12_takesName.2.1 0 = .ok (.aload_n 0, 1) := by decide +kernel
theorem dX12_takesName_1 : decode YX12_takesName.2.1 1 = .ok (.iload_n 1, 1) := by decide +kernel
theorem dX12_takesName_2 : decode YX12_takesName.2.1 2 = .ok (.iload_n 2, 1) := by decide +kernel
theorem dX12_takesName_3 : decode YX12_takesName.2.1 3 = .ok (.invokevirtual 207, 3) := by decide +kernel
theorem dX12_takesName_6 : decode YX12_takesName.2.1 6 = .ok (.ifCond .ne 5, 3) := by decide +kernel
theorem dX12_takesName_9 : decode YX12_takesName.2.1 9 = .ok (.iconst 0, 1) := by decide +kernel
theorem dX12_takesName_10 : decode YX12_takesName.2.1 10 = .ok (.ireturn, 1) := by decide +kernel
theorem dX12_takesName_11 : decode YX12_takesName.2.1 11 = .ok (.aload_n 0, 1) := by decide +kernel
theorem dX12_takesName_12 : decode YX12_takesName.2.1 12 = .ok (.invokevirtual 185, 3) := by decide +kernel
theorem dX12_takesName_15 : decode YX12_takesName.2.1 15 = .ok (.iconst 1, 1) := by decide +kernel
theorem dX12_takesName_16 : decode YX12_takesName.2.1 16 = .ok (.ireturn, 1) := by decide +kernel
theorem dX12_thrown_0 : decode YX12_thrown.2.1 0 = .ok (.aload_n 0, 1) := by decide +kernel
theorem dX12_thrown_1 : decode YX12_thrown.2.1 1 = .ok (.getfield 1, 3) := by decide +kernel
theorem dX12_thrown_4 : decode YX12_thrown.2.1 4 = .ok (.ireturn, 1) := by decide +kernel
theorem dX12_throwsIf_0 : decode YX12_throwsIf.2.1 0 = .ok (.aload_n 0, 1) := by decide +kernel
theorem dX12_throwsIf_1 : decode YX12_throwsIf.2.1 1 = .ok (.iload_n 1, 1) := by decide +kernel
theorem dX12_throwsIf_2 : decode YX12_throwsIf.2.1 2 = .ok (.ifCond .eq 7, 3) := by decide +kernel
theorem dX12_throwsIf_5 : decode YX12_throwsIf.2.1 5 = .ok (.iconst 1, 1) := by decide +kernel
theorem dX12_throwsIf_6 : decode YX12_throwsIf.2.1 6 = .ok (.goto 4, 3) := by decide +kernel
theorem dX12_throwsIf_9 : decode YX12_throwsIf.2.1 9 = .ok (.iconst 0, 1) := by decide +kernel
theorem dX12_throwsIf_10 : decode YX12_throwsIf.2.1 10 = .ok (.putfield 1, 3) := by decide +kernel
theorem dX12_throwsIf_13 : decode YX12_throwsIf.2.1 13 = .ok (.iload_n 1, 1) := by decide +kernel
theorem dX12_throwsIf_14 : decode YX12_throwsIf.2.1 14 = .ok (.ireturn, 1) := by decide +kernel
theorem dX12_told_0 : decode YX12_told.2.1 0 = .ok (.aload_n 0, 1) := by decide +kernel
theorem dX12_told_1 : decode YX12_told.2.1 1 = .ok (.iconst 0, 1) := by decide +kernel
theorem dX12_told_2 : decode YX12_told.2.1 2 = .ok (.putfield 1, 3) := by decide +kernel
theorem dX12_told_5 : decode YX12_told.2.1 5 = .ok (.aload_n 0, 1) := by decide +kernel
theorem dX12_told_6 : decode YX12_told.2.1 6 = .ok (.getfield 426, 3) := by decide +kernel
theorem dX12_told_9 : decode YX12_told.2.1 9 = .ok (.ifCond .eq 21, 3) := by decide +kernel
theorem dX12_told_12 : decode YX12_told.2.1 12 = .ok (.iload_n 1, 1) := by decide +kernel
theorem dX12_told_13 : decode YX12_told.2.1 13 = .ok (.iconst 0, 1) := by decide +kernel
theorem dX12_told_14 : decode YX12_told.2.1 14 = .ok (.iconst 3, 1) := by decide +kernel
theorem dX12_told_15 : decode YX12_told.2.1 15 = .ok (.invokestatic 188, 3) := by decide +kernel
theorem dX12_told_18 : decode YX12_told.2.1 18 = .ok (.ifCond .eq 12, 3) := by decide +kernel
theorem dX12_told_21 : decode YX12_told.2.1 21 = .ok (.aload_n 0, 1) := by decide +kernel
theorem dX12_told_22 : decode YX12_told.2.1 22 = .ok (.getfield 80, 3) := by decide +kernel
theorem dX12_told_25 : decode YX12_told.2.1 25 = .ok (.iload_n 1, 1) := by decide +kernel
theorem dX12_told_26 : decode YX12_told.2.1 26 = .ok (.iaload, 1) := by decide +kernel
theorem dX12_told_27 : decode YX12_told.2.1 27 = .ok (.goto 4, 3) := by decide +kernel
theorem dX12_told_30 : decode YX12_told.2.1 30 = .ok (.iconst (-1), 1) := by decide +kernel
theorem dX12_told_31 : decode YX12_told.2.1 31 = .ok (.ireturn, 1) := by decide +kernel
theorem dX12_towards_0 : decode YX12_towards.2.1 0 = .ok (.iconst 0, 1) := by decide +kernel
theorem dX12_towards_1 : decode YX12_towards.2.1 1 = .ok (.istore_n 3, 1) := by decide +kernel
theorem dX12_towards_2 : decode YX12_towards.2.1 2 = .ok (.iload_n 1, 1) := by decide +kernel
theorem dX12_towards_3 : decode YX12_towards.2.1 3 = .ok (.iload_n 2, 1) := by decide +kernel
theorem dX12_towards_4 : decode YX12_towards.2.1 4 = .ok (.if_icmp .eq 45, 3) := by decide +kernel
theorem dX12_towards_7 : decode YX12_towards.2.1 7 = .ok (.aload_n 0, 1) := by decide +kernel
theorem dX12_towards_8 : decode YX12_towards.2.1 8 = .ok (.iload_n 1, 1) := by decide +kernel
theorem dX12_towards_9 : decode YX12_towards.2.1 9 = .ok (.iload_n 3, 1) := by decide +kernel
theorem dX12_towards_10 : decode YX12_towards.2.1 10 = .ok (.invokevirtual 259, 3) := by decide +kernel
theorem dX12_towards_13 : decode YX12_towards.2.1 13 = .ok (.ifCond .eq 30, 3) := by decide +kernel
theorem dX12_towards_16 : decode YX12_towards.2.1 16 = .ok (.aload_n 0, 1) := by decide +kernel
theorem dX12_towards_17 : decode YX12_towards.2.1 17 = .ok (.getfield 50, 3) := by decide +kernel
theorem dX12_towards_20 : decode YX12_towards.2.1 20 = .ok (.bipush 8, 2) := by decide +kernel
theorem dX12_towards_22 : decode YX12_towards.2.1 22 = .ok (.iload_n 3, 1) := by decide +kernel
theorem dX12_towards_23 : decode YX12_towards.2.1 23 = .ok (.imul, 1) := by decide +kernel
theorem dX12_towards_24 : decode YX12_towards.2.1 24 = .ok (.iload_n 2, 1) := by decide +kernel
theorem dX12_towards_25 : decode YX12_towards.2.1 25 = .ok (.iadd, 1) := by decide +kernel
theorem dX12_towards_26 : decode YX12_towards.2.1 26 = .ok (.iaload, 1) := by decide +kernel
theorem dX12_towards_27 : decode YX12_towards.2.1 27 = .ok (.aload_n 0, 1) := by decide +kernel
theorem dX12_towards_28 : decode YX12_towards.2.1 28 = .ok (.getfield 50, 3) := by decide +kernel
theorem dX12_towards_31 : decode YX12_towards.2.1 31 = .ok (.bipush 8, 2) := by decide +kernel
theorem dX12_towards_33 : decode YX12_towards.2.1 33 = .ok (.iload_n 1, 1) := by decide +kernel
theorem dX12_towards_34 : decode YX12_towards.2.1 34 = .ok (.imul, 1) := by decide +kernel
theorem dX12_towards_35 : decode YX12_towards.2.1 35 = .ok (.iload_n 2, 1) := by decide +kernel
theorem dX12_towards_36 : decode YX12_towards.2.1 36 = .ok (.iadd, 1) := by decide +kernel
theorem dX12_towards_37 : decode YX12_towards.2.1 37 = .ok (.iaload, 1) := by decide +kernel
theorem dX12_towards_38 : decode YX12_towards.2.1 38 = .ok (.iconst 1, 1) := by decide +kernel
theorem dX12_towards_39 : decode YX12_towards.2.1 39 = .ok (.isub, 1) := by decide +kernel
theorem dX12_towards_40 : decode YX12_towards.2.1 40 = .ok (.if_icmp .eq 9, 3) := by decide +kernel
theorem dX12_towards_43 : decode YX12_towards.2.1 43 = .ok (.iinc 3 1, 3) := by decide +kernel
theorem dX12_towards_46 : decode YX12_towards.2.1 46 = .ok (.goto (-44), 3) := by decide +kernel
theorem dX12_towards_49 : decode YX12_towards.2.1 49 = .ok (.iload_n 1, 1) := by decide +kernel
theorem dX12_towards_50 : decode YX12_towards.2.1 50 = .ok (.iload_n 2, 1) := by decide +kernel
theorem dX12_towards_51 : decode YX12_towards.2.1 51 = .ok (.if_icmp .ne 7, 3) := by decide +kernel
theorem dX12_towards_54 : decode YX12_towards.2.1 54 = .ok (.iload_n 1, 1) := by decide +kernel
theorem dX12_towards_55 : decode YX12_towards.2.1 55 = .ok (.goto 4, 3) := by decide +kernel
theorem dX12_towards_58 : decode YX12_towards.2.1 58 = .ok (.iload_n 3, 1) := by decide +kernel
theorem dX12_towards_59 : decode YX12_towards.2.1 59 = .ok (.ireturn, 1) := by decide +kernel
theorem dX12_town_0 : decode YX12_town.2.1 0 = .ok (.aload_n 0, 1) := by decide +kernel
theorem dX12_town_1 : decode YX12_town.2.1 1 = .ok (.iconst 0, 1) := by decide +kernel
theorem dX12_town_2 : decode YX12_town.2.1 2 = .ok (.putfield 1, 3) := by decide +kernel
theorem dX12_town_5 : decode YX12_town.2.1 5 = .ok (.aload_n 0, 1) := by decide +kernel
theorem dX12_town_6 : decode YX12_town.2.1 6 = .ok (.sipush 900, 3) := by decide +kernel
theorem dX12_town_9 : decode YX12_town.2.1 9 = .ok (.invokevirtual 241, 3) := by decide +kernel
theorem dX12_town_12 : decode YX12_town.2.1 12 = .ok (.aload_n 0, 1) := by decide +kernel
theorem dX12_town_13 : decode YX12_town.2.1 13 = .ok (.iconst 0, 1) := by decide +kernel
theorem dX12_town_14 : decode YX12_town.2.1 14 = .ok (.putfield 173, 3) := by decide +kernel
theorem dX12_town_17 : decode YX12_town.2.1 17 = .ok (.aload_n 0, 1) := by decide +kernel
theorem dX12_town_18 : decode YX12_town.2.1 18 = .ok (.iconst 0, 1) := by decide +kernel
theorem dX12_town_19 : decode YX12_town.2.1 19 = .ok (.putfield 244, 3) := by decide +kernel
theorem dX12_town_22 : decode YX12_town.2.1 22 = .ok (.aload_n 0, 1) := by decide +kernel
theorem dX12_town_23 : decode YX12_town.2.1 23 = .ok (.invokevirtual 143, 3) := by decide +kernel
theorem dX12_town_26 : decode YX12_town.2.1 26 = .ok (.aload_n 0, 1) := by decide +kernel
theorem dX12_town_27 : decode YX12_town.2.1 27 = .ok (.invokevirtual 185, 3) := by decide +kernel
theorem dX12_town_30 : decode YX12_town.2.1 30 = .ok (.aload_n 0, 1) := by decide +kernel
theorem dX12_town_31 : decode YX12_town.2.1 31 = .ok (.getfield 156, 3) := by decide +kernel
theorem dX12_town_34 : decode YX12_town.2.1 34 = .ok (.ifCond .eq 39, 3) := by decide +kernel
theorem dX12_town_37 : decode YX12_town.2.1 37 = .ok (.aload_n 0, 1) := by decide +kernel
theorem dX12_town_38 : decode YX12_town.2.1 38 = .ok (.invokevirtual 247, 3) := by decide +kernel
theorem dX12_town_41 : decode YX12_town.2.1 41 = .ok (.ifCond .eq 12, 3) := by decide +kernel
theorem dX12_town_44 : decode YX12_town.2.1 44 = .ok (.aload_n 0, 1) := by decide +kernel
theorem dX12_town_45 : decode YX12_town.2.1 45 = .ok (.bipush 59, 2) := by decide +kernel
theorem dX12_town_47 : decode YX12_town.2.1 47 = .ok (.invokevirtual 250, 3) := by decide +kernel
theorem dX12_town_50 : decode YX12_town.2.1 50 = .ok (.ifCond .ne 10, 3) := by decide +kernel
theorem dX12_town_53 : decode YX12_town.2.1 53 = .ok (.iconst (-1), 1) := by decide +kernel
theorem dX12_town_54 : decode YX12_town.2.1 54 = .ok (.aload_n 0, 1) := by decide +kernel
theorem dX12_town_55 : decode YX12_town.2.1 55 = .ok (.getfield 176, 3) := by decide +kernel
theorem dX12_town_58 : decode YX12_town.2.1 58 = .ok (.isub, 1) := by decide +kernel
theorem dX12_town_59 : decode YX12_town.2.1 59 = .ok (.ireturn, 1) := by decide +kernel
theorem dX12_town_60 : decode YX12_town.2.1 60 = .ok (.aload_n 0, 1) := by decide +kernel
theorem dX12_town_61 : decode YX12_town.2.1 61 = .ok (.dup, 1) := by decide +kernel
theorem dX12_town_62 : decode YX12_town.2.1 62 = .ok (.getfield 244, 3) := by decide +kernel
theorem dX12_town_65 : decode YX12_town.2.1 65 = .ok (.iconst 1, 1) := by decide +kernel
theorem dX12_town_66 : decode YX12_town.2.1 66 = .ok (.iadd, 1) := by decide +kernel
theorem dX12_town_67 : decode YX12_town.2.1 67 = .ok (.putfield 244, 3) := by decide +kernel
theorem dX12_town_70 : decode YX12_town.2.1 70 = .ok (.goto (-40), 3) := by decide +kernel
theorem dX12_town_73 : decode YX12_town.2.1 73 = .ok (.iconst 0, 1) := by decide +kernel
theorem dX12_town_74 : decode YX12_town.2.1 74 = .ok (.istore_n 1, 1) := by decide +kernel
theorem dX12_town_75 : decode YX12_town.2.1 75 = .ok (.iload_n 1, 1) := by decide +kernel
theorem dX12_town_76 : decode YX12_town.2.1 76 = .ok (.sipush 397, 3) := by decide +kernel
theorem dX12_town_79 : decode YX12_town.2.1 79 = .ok (.if_icmp .ge 31, 3) := by decide +kernel
theorem dX12_town_82 : decode YX12_town.2.1 82 = .ok (.aload_n 0, 1) := by decide +kernel
theorem dX12_town_83 : decode YX12_town.2.1 83 = .ok (.getfield 33, 3) := by decide +kernel
theorem dX12_town_86 : decode YX12_town.2.1 86 = .ok (.iload_n 1, 1) := by decide +kernel
theorem dX12_town_87 : decode YX12_town.2.1 87 = .ok (.iload_n 1, 1) := by decide +kernel
theorem dX12_town_88 : decode YX12_town.2.1 88 = .ok (.bipush 89, 2) := by decide +kernel
theorem dX12_town_90 : decode YX12_town.2.1 90 = .ok (.if_icmp .ge 12, 3) := by decide +kernel
theorem dX12_town_93 : decode YX12_town.2.1 93 = .ok (.aload_n 0, 1) := by decide +kernel
theorem dX12_town_94 : decode YX12_town.2.1 94 = .ok (.getfield 37, 3) := by decide +kernel
theorem dX12_town_97 : decode YX12_town.2.1 97 = .ok (.iload_n 1, 1) := by decide +kernel
theorem dX12_town_98 : decode YX12_town.2.1 98 = .ok (.iaload, 1) := by decide +kernel
theorem dX12_town_99 : decode YX12_town.2.1 99 = .ok (.goto 4, 3) := by decide +kernel
theorem dX12_town_102 : decode YX12_town.2.1 102 = .ok (.iconst 0, 1) := by decide +kernel
theorem dX12_town_103 : decode YX12_town.2.1 103 = .ok (.iastore, 1) := by decide +kernel
theorem dX12_town_104 : decode YX12_town.2.1 104 = .ok (.iinc 1 1, 3) := by decide +kernel
theorem dX12_town_107 : decode YX12_town.2.1 107 = .ok (.goto (-32), 3) := by decide +kernel
theorem dX12_town_110 : decode YX12_town.2.1 110 = .ok (.iconst 0, 1) := by decide +kernel
theorem dX12_town_111 : decode YX12_town.2.1 111 = .ok (.istore_n 1, 1) := by decide +kernel
theorem dX12_town_112 : decode YX12_town.2.1 112 = .ok (.iload_n 1, 1) := by decide +kernel
theorem dX12_town_113 : decode YX12_town.2.1 113 = .ok (.bipush 14, 2) := by decide +kernel
theorem dX12_town_115 : decode YX12_town.2.1 115 = .ok (.if_icmp .ge 24, 3) := by decide +kernel
theorem dX12_town_118 : decode YX12_town.2.1 118 = .ok (.aload_n 0, 1) := by decide +kernel
theorem dX12_town_119 : decode YX12_town.2.1 119 = .ok (.getfield 43, 3) := by decide +kernel
theorem dX12_town_122 : decode YX12_town.2.1 122 = .ok (.iload_n 1, 1) := by decide +kernel
theorem dX12_town_123 : decode YX12_town.2.1 123 = .ok (.aload_n 0, 1) := by decide +kernel
theorem dX12_town_124 : decode YX12_town.2.1 124 = .ok (.getfield 43, 3) := by decide +kernel
theorem dX12_town_127 : decode YX12_town.2.1 127 = .ok (.bipush 14, 2) := by decide +kernel
theorem dX12_town_129 : decode YX12_town.2.1 129 = .ok (.iload_n 1, 1) := by decide +kernel
theorem dX12_town_130 : decode YX12_town.2.1 130 = .ok (.iadd, 1) := by decide +kernel
theorem dX12_town_131 : decode YX12_town.2.1 131 = .ok (.laload, 1) := by decide +kernel
theorem dX12_town_132 : decode YX12_town.2.1 132 = .ok (.lastore, 1) := by decide +kernel
theorem dX12_town_133 : decode YX12_town.2.1 133 = .ok (.iinc 1 1, 3) := by decide +kernel
theorem dX12_town_136 : decode YX12_town.2.1 136 = .ok (.goto (-24), 3) := by decide +kernel
theorem dX12_town_139 : decode YX12_town.2.1 139 = .ok (.iconst 0, 1) := by decide +kernel
theorem dX12_town_140 : decode YX12_town.2.1 140 = .ok (.istore_n 1, 1) := by decide +kernel
theorem dX12_town_141 : decode YX12_town.2.1 141 = .ok (.iload_n 1, 1) := by decide +kernel
theorem dX12_town_142 : decode YX12_town.2.1 142 = .ok (.bipush 6, 2) := by decide +kernel
theorem dX12_town_144 : decode YX12_town.2.1 144 = .ok (.if_icmp .ge 121, 3) := by decide +kernel
theorem dX12_town_147 : decode YX12_town.2.1 147 = .ok (.iconst 0, 1) := by decide +kernel
theorem dX12_town_148 : decode YX12_town.2.1 148 = .ok (.istore_n 2, 1) := by decide +kernel
theorem dX12_town_149 : decode YX12_town.2.1 149 = .ok (.iload_n 2, 1) := by decide +kernel
theorem dX12_town_150 : decode YX12_town.2.1 150 = .ok (.bipush 6, 2) := by decide +kernel
theorem dX12_town_152 : decode YX12_town.2.1 152 = .ok (.if_icmp .ge 32, 3) := by decide +kernel
theorem dX12_town_155 : decode YX12_town.2.1 155 = .ok (.aload_n 0, 1) := by decide +kernel
theorem dX12_town_156 : decode YX12_town.2.1 156 = .ok (.getfield 33, 3) := by decide +kernel
theorem dX12_town_159 : decode YX12_town.2.1 159 = .ok (.bipush 91, 2) := by decide +kernel
theorem dX12_town_161 : decode YX12_town.2.1 161 = .ok (.bipush 6, 2) := by decide +kernel
theorem dX12_town_163 : decode YX12_town.2.1 163 = .ok (.iload_n 2, 1) := by decide +kernel
theorem dX12_town_164 : decode YX12_town.2.1 164 = .ok (.imul, 1) := by decide +kernel
theorem dX12_town_165 : decode YX12_town.2.1 165 = .ok (.iadd, 1) := by decide +kernel
theorem dX12_town_166 : decode YX12_town.2.1 166 = .ok (.iload_n 1, 1) := by decide +kernel
theorem dX12_town_167 : decode YX12_town.2.1 167 = .ok (.iadd, 1) := by decide +kernel
theorem dX12_town_168 : decode YX12_town.2.1 168 = .ok (.aload_n 0, 1) := by decide +kernel
theorem dX12_town_169 : decode YX12_town.2.1 169 = .ok (.getfield 33, 3) := by decide +kernel
theorem dX12_town_172 : decode YX12_town.2.1 172 = .ok (.bipush 11, 2) := by decide +kernel
theorem dX12_town_174 : decode YX12_town.2.1 174 = .ok (.iload_n 1, 1) := by decide +kernel
theorem dX12_town_175 : decode YX12_town.2.1 175 = .ok (.iadd, 1) := by decide +kernel
theorem dX12_town_176 : decode YX12_town.2.1 176 = .ok (.iaload, 1) := by decide +kernel
theorem dX12_town_177 : decode YX12_town.2.1 177 = .ok (.iastore, 1) := by decide +kernel
theorem dX12_town_178 : decode YX12_town.2.1 178 = .ok (.iinc 2 1, 3) := by decide +kernel
theorem dX12_town_181 : decode YX12_town.2.1 181 = .ok (.goto (-32), 3) := by decide +kernel
theorem dX12_town_184 : decode YX12_town.2.1 184 = .ok (.aload_n 0, 1) := by decide +kernel
theorem dX12_town_185 : decode YX12_town.2.1 185 = .ok (.getfield 33, 3) := by decide +kernel
theorem dX12_town_188 : decode YX12_town.2.1 188 = .ok (.bipush 127, 2) := by decide +kernel
theorem dX12_town_190 : decode YX12_town.2.1 190 = .ok (.iload_n 1, 1) := by decide +kernel
theorem dX12_town_191 : decode YX12_town.2.1 191 = .ok (.iadd, 1) := by decide +kernel
theorem dX12_town_192 : decode YX12_town.2.1 192 = .ok (.aload_n 0, 1) := by decide +kernel
theorem dX12_town_193 : decode YX12_town.2.1 193 = .ok (.getfield 33, 3) := by decide +kernel
theorem dX12_town_196 : decode YX12_town.2.1 196 = .ok (.bipush 17, 2) := by decide +kernel
theorem dX12_town_198 : decode YX12_town.2.1 198 = .ok (.iload_n 1, 1) := by decide +kernel
theorem dX12_town_199 : decode YX12_town.2.1 199 = .ok (.iadd, 1) := by decide +kernel
theorem dX12_town_200 : decode YX12_town.2.1 200 = .ok (.iaload, 1) := by decide +kernel
theorem dX12_town_201 : decode YX12_town.2.1 201 = .ok (.iastore, 1) := by decide +kernel
theorem dX12_town_202 : decode YX12_town.2.1 202 = .ok (.aload_n 0, 1) := by decide +kernel
theorem dX12_town_203 : decode YX12_town.2.1 203 = .ok (.getfield 33, 3) := by decide +kernel
theorem dX12_town_206 : decode YX12_town.2.1 206 = .ok (.sipush 133, 3) := by decide +kernel
theorem dX12_town_209 : decode YX12_town.2.1 209 = .ok (.iload_n 1, 1) := by decide +kernel
theorem dX12_town_210 : decode YX12_town.2.1 210 = .ok (.iadd, 1) := by decide +kernel
theorem dX12_town_211 : decode YX12_town.2.1 211 = .ok (.aload_n 0, 1) := by decide +kernel
theorem dX12_town_212 : decode YX12_town.2.1 212 = .ok (.getfield 33, 3) := by decide +kernel
theorem dX12_town_215 : decode YX12_town.2.1 215 = .ok (.bipush 23, 2) := by decide +kernel
theorem dX12_town_217 : decode YX12_town.2.1 217 = .ok (.iload_n 1, 1) := by decide +kernel
theorem dX12_town_218 : decode YX12_town.2.1 218 = .ok (.iadd, 1) := by decide +kernel
theorem dX12_town_219 : decode YX12_town.2.1 219 = .ok (.iaload, 1) := by decide +kernel
theorem dX12_town_220 : decode YX12_town.2.1 220 = .ok (.iastore, 1) := by decide +kernel
theorem dX12_town_221 : decode YX12_town.2.1 221 = .ok (.aload_n 0, 1) := by decide +kernel
theorem dX12_town_222 : decode YX12_town.2.1 222 = .ok (.getfield 33, 3) := by decide +kernel
theorem dX12_town_225 : decode YX12_town.2.1 225 = .ok (.sipush 139, 3) := by decide +kernel
theorem dX12_town_228 : decode YX12_town.2.1 228 = .ok (.iload_n 1, 1) := by decide +kernel
theorem dX12_town_229 : decode YX12_town.2.1 229 = .ok (.iadd, 1) := by decide +kernel
theorem dX12_town_230 : decode YX12_town.2.1 230 = .ok (.aload_n 0, 1) := by decide +kernel
theorem dX12_town_231 : decode YX12_town.2.1 231 = .ok (.getfield 33, 3) := by decide +kernel
theorem dX12_town_234 : decode YX12_town.2.1 234 = .ok (.bipush 29, 2) := by decide +kernel
theorem dX12_town_236 : decode YX12_town.2.1 236 = .ok (.iload_n 1, 1) := by decide +kernel
theorem dX12_town_237 : decode YX12_town.2.1 237 = .ok (.iadd, 1) := by decide +kernel
theorem dX12_town_238 : decode YX12_town.2.1 238 = .ok (.iaload, 1) := by decide +kernel
theorem dX12_town_239 : decode YX12_town.2.1 239 = .ok (.iastore, 1) := by decide +kernel
theorem dX12_town_240 : decode YX12_town.2.1 240 = .ok (.aload_n 0, 1) := by decide +kernel
theorem dX12_town_241 : decode YX12_town.2.1 241 = .ok (.getfield 33, 3) := by decide +kernel
theorem dX12_town_244 : decode YX12_town.2.1 244 = .ok (.sipush 145, 3) := by decide +kernel
theorem dX12_town_247 : decode YX12_town.2.1 247 = .ok (.iload_n 1, 1) := by decide +kernel
theorem dX12_town_248 : decode YX12_town.2.1 248 = .ok (.iadd, 1) := by decide +kernel
theorem dX12_town_249 : decode YX12_town.2.1 249 = .ok (.aload_n 0, 1) := by decide +kernel
theorem dX12_town_250 : decode YX12_town.2.1 250 = .ok (.getfield 33, 3) := by decide +kernel
theorem dX12_town_253 : decode YX12_town.2.1 253 = .ok (.bipush 35, 2) := by decide +kernel
theorem dX12_town_255 : decode YX12_town.2.1 255 = .ok (.iload_n 1, 1) := by decide +kernel
theorem dX12_town_256 : decode YX12_town.2.1 256 = .ok (.iadd, 1) := by decide +kernel
theorem dX12_town_257 : decode YX12_town.2.1 257 = .ok (.iaload, 1) := by decide +kernel
theorem dX12_town_258 : decode YX12_town.2.1 258 = .ok (.iastore, 1) := by decide +kernel
theorem dX12_town_259 : decode YX12_town.2.1 259 = .ok (.iinc 1 1, 3) := by decide +kernel
theorem dX12_town_262 : decode YX12_town.2.1 262 = .ok (.goto (-121), 3) := by decide +kernel
theorem dX12_town_265 : decode YX12_town.2.1 265 = .ok (.iconst 0, 1) := by decide +kernel
theorem dX12_town_266 : decode YX12_town.2.1 266 = .ok (.istore_n 1, 1) := by decide +kernel
theorem dX12_town_267 : decode YX12_town.2.1 267 = .ok (.iload_n 1, 1) := by decide +kernel
theorem dX12_town_268 : decode YX12_town.2.1 268 = .ok (.bipush 48, 2) := by decide +kernel
theorem dX12_town_270 : decode YX12_town.2.1 270 = .ok (.if_icmp .ge 28, 3) := by decide +kernel
theorem dX12_town_273 : decode YX12_town.2.1 273 = .ok (.aload_n 0, 1) := by decide +kernel
theorem dX12_town_274 : decode YX12_town.2.1 274 = .ok (.getfield 33, 3) := by decide +kernel
theorem dX12_town_277 : decode YX12_town.2.1 277 = .ok (.sipush 151, 3) := by decide +kernel
theorem dX12_town_280 : decode YX12_town.2.1 280 = .ok (.iload_n 1, 1) := by decide +kernel
theorem dX12_town_281 : decode YX12_town.2.1 281 = .ok (.iadd, 1) := by decide +kernel
theorem dX12_town_282 : decode YX12_town.2.1 282 = .ok (.aload_n 0, 1) := by decide +kernel
theorem dX12_town_283 : decode YX12_town.2.1 283 = .ok (.getfield 33, 3) := by decide +kernel
theorem dX12_town_286 : decode YX12_town.2.1 286 = .ok (.bipush 41, 2) := by decide +kernel
theorem dX12_town_288 : decode YX12_town.2.1 288 = .ok (.iload_n 1, 1) := by decide +kernel
theorem dX12_town_289 : decode YX12_town.2.1 289 = .ok (.iadd, 1) := by decide +kernel
theorem dX12_town_290 : decode YX12_town.2.1 290 = .ok (.iaload, 1) := by decide +kernel
theorem dX12_town_291 : decode YX12_town.2.1 291 = .ok (.iastore, 1) := by decide +kernel
theorem dX12_town_292 : decode YX12_town.2.1 292 = .ok (.iinc 1 1, 3) := by decide +kernel
theorem dX12_town_295 : decode YX12_town.2.1 295 = .ok (.goto (-28), 3) := by decide +kernel
theorem dX12_town_298 : decode YX12_town.2.1 298 = .ok (.aload_n 0, 1) := by decide +kernel
theorem dX12_town_299 : decode YX12_town.2.1 299 = .ok (.invokevirtual 253, 3) := by decide +kernel
theorem dX12_town_302 : decode YX12_town.2.1 302 = .ok (.aload_n 0, 1) := by decide +kernel
theorem dX12_town_303 : decode YX12_town.2.1 303 = .ok (.iconst 0, 1) := by decide +kernel
theorem dX12_town_304 : decode YX12_town.2.1 304 = .ok (.putfield 256, 3) := by decide +kernel
theorem dX12_town_307 : decode YX12_town.2.1 307 = .ok (.aload_n 0, 1) := by decide +kernel
theorem dX12_town_308 : decode YX12_town.2.1 308 = .ok (.getfield 244, 3) := by decide +kernel
theorem dX12_town_311 : decode YX12_town.2.1 311 = .ok (.ireturn, 1) := by decide +kernel
theorem dX12_tries_0 : decode YX12_tries.2.1 0 = .ok (.iconst 0, 1) := by decide +kernel
theorem dX12_tries_1 : decode YX12_tries.2.1 1 = .ok (.istore_n 1, 1) := by decide +kernel
theorem dX12_tries_2 : decode YX12_tries.2.1 2 = .ok (.iload_n 1, 1) := by decide +kernel
theorem dX12_tries_3 : decode YX12_tries.2.1 3 = .ok (.bipush 127, 2) := by decide +kernel
theorem dX12_tries_5 : decode YX12_tries.2.1 5 = .ok (.if_icmp .ge 24, 3) := by decide +kernel
theorem dX12_tries_8 : decode YX12_tries.2.1 8 = .ok (.aload_n 0, 1) := by decide +kernel
theorem dX12_tries_9 : decode YX12_tries.2.1 9 = .ok (.getfield 59, 3) := by decide +kernel
theorem dX12_tries_12 : decode YX12_tries.2.1 12 = .ok (.iload_n 1, 1) := by decide +kernel
theorem dX12_tries_13 : decode YX12_tries.2.1 13 = .ok (.aload_n 0, 1) := by decide +kernel
theorem dX12_tries_14 : decode YX12_tries.2.1 14 = .ok (.getfield 33, 3) := by decide +kernel
theorem dX12_tries_17 : decode YX12_tries.2.1 17 = .ok (.bipush 89, 2) := by decide +kernel
theorem dX12_tries_19 : decode YX12_tries.2.1 19 = .ok (.iload_n 1, 1) := by decide +kernel
theorem dX12_tries_20 : decode YX12_tries.2.1 20 = .ok (.iadd, 1) := by decide +kernel
theorem dX12_tries_21 : decode YX12_tries.2.1 21 = .ok (.iaload, 1) := by decide +kernel
theorem dX12_tries_22 : decode YX12_tries.2.1 22 = .ok (.iastore, 1) := by decide +kernel
theorem dX12_tries_23 : decode YX12_tries.2.1 23 = .ok (.iinc 1 1, 3) := by decide +kernel
theorem dX12_tries_26 : decode YX12_tries.2.1 26 = .ok (.goto (-24), 3) := by decide +kernel
theorem dX12_tries_29 : decode YX12_tries.2.1 29 = .ok (.return_, 1) := by decide +kernel
theorem dX12_undo_0 : decode YX12_undo.2.1 0 = .ok (.aload_n 0, 1) := by decide +kernel
theorem dX12_undo_1 : decode YX12_undo.2.1 1 = .ok (.iconst 0, 1) := by decide +kernel
theorem dX12_undo_2 : decode YX12_undo.2.1 2 = .ok (.putfield 1, 3) := by decide +kernel
theorem dX12_undo_5 : decode YX12_undo.2.1 5 = .ok (.aload_n 0, 1) := by decide +kernel
theorem dX12_undo_6 : decode YX12_undo.2.1 6 = .ok (.getfield 256, 3) := by decide +kernel
theorem dX12_undo_9 : decode YX12_undo.2.1 9 = .ok (.ifCond .ne 5, 3) := by decide +kernel
theorem dX12_undo_12 : decode YX12_undo.2.1 12 = .ok (.iconst (-1), 1) := by decide +kernel
theorem dX12_undo_13 : decode YX12_undo.2.1 13 = .ok (.ireturn, 1) := by decide +kernel
theorem dX12_undo_14 : decode YX12_undo.2.1 14 = .ok (.aload_n 0, 1) := by decide +kernel
theorem dX12_undo_15 : decode YX12_undo.2.1 15 = .ok (.dup, 1) := by decide +kernel
theorem dX12_undo_16 : decode YX12_undo.2.1 16 = .ok (.getfield 256, 3) := by decide +kernel
theorem dX12_undo_19 : decode YX12_undo.2.1 19 = .ok (.iconst 1, 1) := by decide +kernel
theorem dX12_undo_20 : decode YX12_undo.2.1 20 = .ok (.isub, 1) := by decide +kernel
theorem dX12_undo_21 : decode YX12_undo.2.1 21 = .ok (.putfield 256, 3) := by decide +kernel
theorem dX12_undo_24 : decode YX12_undo.2.1 24 = .ok (.iconst 0, 1) := by decide +kernel
theorem dX12_undo_25 : decode YX12_undo.2.1 25 = .ok (.istore_n 1, 1) := by decide +kernel
theorem dX12_undo_26 : decode YX12_undo.2.1 26 = .ok (.iload_n 1, 1) := by decide +kernel
theorem dX12_undo_27 : decode YX12_undo.2.1 27 = .ok (.bipush 127, 2) := by decide +kernel
theorem dX12_undo_29 : decode YX12_undo.2.1 29 = .ok (.if_icmp .ge 32, 3) := by decide +kernel
theorem dX12_undo_32 : decode YX12_undo.2.1 32 = .ok (.aload_n 0, 1) := by decide +kernel
theorem dX12_undo_33 : decode YX12_undo.2.1 33 = .ok (.getfield 33, 3) := by decide +kernel
theorem dX12_undo_36 : decode YX12_undo.2.1 36 = .ok (.bipush 89, 2) := by decide +kernel
theorem dX12_undo_38 : decode YX12_undo.2.1 38 = .ok (.iload_n 1, 1) := by decide +kernel
theorem dX12_undo_39 : decode YX12_undo.2.1 39 = .ok (.iadd, 1) := by decide +kernel
theorem dX12_undo_40 : decode YX12_undo.2.1 40 = .ok (.aload_n 0, 1) := by decide +kernel
theorem dX12_undo_41 : decode YX12_undo.2.1 41 = .ok (.getfield 56, 3) := by decide +kernel
theorem dX12_undo_44 : decode YX12_undo.2.1 44 = .ok (.bipush 127, 2) := by decide +kernel
theorem dX12_undo_46 : decode YX12_undo.2.1 46 = .ok (.aload_n 0, 1) := by decide +kernel
theorem dX12_undo_47 : decode YX12_undo.2.1 47 = .ok (.getfield 256, 3) := by decide +kernel
theorem dX12_undo_50 : decode YX12_undo.2.1 50 = .ok (.imul, 1) := by decide +kernel
theorem dX12_undo_51 : decode YX12_undo.2.1 51 = .ok (.iload_n 1, 1) := by decide +kernel
theorem dX12_undo_52 : decode YX12_undo.2.1 52 = .ok (.iadd, 1) := by decide +kernel
theorem dX12_undo_53 : decode YX12_undo.2.1 53 = .ok (.iaload, 1) := by decide +kernel
theorem dX12_undo_54 : decode YX12_undo.2.1 54 = .ok (.iastore, 1) := by decide +kernel
theorem dX12_undo_55 : decode YX12_undo.2.1 55 = .ok (.iinc 1 1, 3) := by decide +kernel
theorem dX12_undo_58 : decode YX12_undo.2.1 58 = .ok (.goto (-32), 3) := by decide +kernel
theorem dX12_undo_61 : decode YX12_undo.2.1 61 = .ok (.aload_n 0, 1) := by decide +kernel
theorem dX12_undo_62 : decode YX12_undo.2.1 62 = .ok (.getfield 256, 3) := by decide +kernel
theorem dX12_undo_65 : decode YX12_undo.2.1 65 = .ok (.ireturn, 1) := by decide +kernel
theorem dX12_was_0 : decode YX12_was.2.1 0 = .ok (.aload_n 0, 1) := by decide +kernel
theorem dX12_was_1 : decode YX12_was.2.1 1 = .ok (.iconst 0, 1) := by decide +kernel
theorem dX12_was_2 : decode YX12_was.2.1 2 = .ok (.putfield 1, 3) := by decide +kernel
theorem dX12_was_5 : decode YX12_was.2.1 5 = .ok (.aload_n 0, 1) := by decide +kernel
theorem dX12_was_6 : decode YX12_was.2.1 6 = .ok (.iload_n 1, 1) := by decide +kernel
theorem dX12_was_7 : decode YX12_was.2.1 7 = .ok (.invokevirtual 270, 3) := by decide +kernel
theorem dX12_was_10 : decode YX12_was.2.1 10 = .ok (.ifCond .eq 29, 3) := by decide +kernel
theorem dX12_was_13 : decode YX12_was.2.1 13 = .ok (.iload_n 2, 1) := by decide +kernel
theorem dX12_was_14 : decode YX12_was.2.1 14 = .ok (.iconst 0, 1) := by decide +kernel
theorem dX12_was_15 : decode YX12_was.2.1 15 = .ok (.iconst 5, 1) := by decide +kernel
theorem dX12_was_16 : decode YX12_was.2.1 16 = .ok (.invokestatic 188, 3) := by decide +kernel
theorem dX12_was_19 : decode YX12_was.2.1 19 = .ok (.ifCond .eq 20, 3) := by decide +kernel
theorem dX12_was_22 : decode YX12_was.2.1 22 = .ok (.aload_n 0, 1) := by decide +kernel
theorem dX12_was_23 : decode YX12_was.2.1 23 = .ok (.getfield 33, 3) := by decide +kernel
theorem dX12_was_26 : decode YX12_was.2.1 26 = .ok (.bipush 91, 2) := by decide +kernel
theorem dX12_was_28 : decode YX12_was.2.1 28 = .ok (.bipush 6, 2) := by decide +kernel
theorem dX12_was_30 : decode YX12_was.2.1 30 = .ok (.iload_n 2, 1) := by decide +kernel
theorem dX12_was_31 : decode YX12_was.2.1 31 = .ok (.imul, 1) := by decide +kernel
theorem dX12_was_32 : decode YX12_was.2.1 32 = .ok (.iadd, 1) := by decide +kernel
theorem dX12_was_33 : decode YX12_was.2.1 33 = .ok (.iload_n 1, 1) := by decide +kernel
theorem dX12_was_34 : decode YX12_was.2.1 34 = .ok (.iadd, 1) := by decide +kernel
theorem dX12_was_35 : decode YX12_was.2.1 35 = .ok (.iaload, 1) := by decide +kernel
theorem dX12_was_36 : decode YX12_was.2.1 36 = .ok (.goto 4, 3) := by decide +kernel
theorem dX12_was_39 : decode YX12_was.2.1 39 = .ok (.iconst (-1), 1) := by decide +kernel
theorem dX12_was_40 : decode YX12_was.2.1 40 = .ok (.ireturn, 1) := by decide +kernel
theorem dX12_whomBy_0 : decode YX12_whomBy.2.1 0 = .ok (.aload_n 0, 1) := by decide +kernel
theorem dX12_whomBy_1 : decode YX12_whomBy.2.1 1 = .ok (.getfield 33, 3) := by decide +kernel
theorem dX12_whomBy_4 : decode YX12_whomBy.2.1 4 = .ok (.sipush 133, 3) := by decide +kernel
theorem dX12_whomBy_7 : decode YX12_whomBy.2.1 7 = .ok (.iload_n 1, 1) := by decide +kernel
theorem dX12_whomBy_8 : decode YX12_whomBy.2.1 8 = .ok (.iadd, 1) := by decide +kernel
theorem dX12_whomBy_9 : decode YX12_whomBy.2.1 9 = .ok (.iaload, 1) := by decide +kernel
theorem dX12_whomBy_10 : decode YX12_whomBy.2.1 10 = .ok (.iconst 1, 1) := by decide +kernel
theorem dX12_whomBy_11 : decode YX12_whomBy.2.1 11 = .ok (.isub, 1) := by decide +kernel
theorem dX12_whomBy_12 : decode YX12_whomBy.2.1 12 = .ok (.ireturn, 1) := by decide +kernel
theorem dX12_whyHire_0 : decode YX12_whyHire.2.1 0 = .ok (.aload_n 0, 1) := by decide +kernel
theorem dX12_whyHire_1 : decode YX12_whyHire.2.1 1 = .ok (.getfield 33, 3) := by decide +kernel
theorem dX12_whyHire_4 : decode YX12_whyHire.2.1 4 = .ok (.sipush 133, 3) := by decide +kernel
theorem dX12_whyHire_7 : decode YX12_whyHire.2.1 7 = .ok (.iload_n 1, 1) := by decide +kernel
theorem dX12_whyHire_8 : decode YX12_whyHire.2.1 8 = .ok (.iadd, 1) := by decide +kernel
theorem dX12_whyHire_9 : decode YX12_whyHire.2.1 9 = .ok (.iaload, 1) := by decide +kernel
theorem dX12_whyHire_10 : decode YX12_whyHire.2.1 10 = .ok (.ifCond .le 7, 3) := by decide +kernel
theorem dX12_whyHire_13 : decode YX12_whyHire.2.1 13 = .ok (.iconst 1, 1) := by decide +kernel
theorem dX12_whyHire_14 : decode YX12_whyHire.2.1 14 = .ok (.goto 21, 3) := by decide +kernel
theorem dX12_whyHire_17 : decode YX12_whyHire.2.1 17 = .ok (.aload_n 0, 1) := by decide +kernel
theorem dX12_whyHire_18 : decode YX12_whyHire.2.1 18 = .ok (.getfield 33, 3) := by decide +kernel
theorem dX12_whyHire_21 : decode YX12_whyHire.2.1 21 = .ok (.sipush 145, 3) := by decide +kernel
theorem dX12_whyHire_24 : decode YX12_whyHire.2.1 24 = .ok (.iload_n 1, 1) := by decide +kernel
theorem dX12_whyHire_25 : decode YX12_whyHire.2.1 25 = .ok (.iadd, 1) := by decide +kernel
theorem dX12_whyHire_26 : decode YX12_whyHire.2.1 26 = .ok (.iaload, 1) := by decide +kernel
theorem dX12_whyHire_27 : decode YX12_whyHire.2.1 27 = .ok (.ifCond .le 7, 3) := by decide +kernel
theorem dX12_whyHire_30 : decode YX12_whyHire.2.1 30 = .ok (.iconst 2, 1) := by decide +kernel
theorem dX12_whyHire_31 : decode YX12_whyHire.2.1 31 = .ok (.goto 4, 3) := by decide +kernel
theorem dX12_whyHire_34 : decode YX12_whyHire.2.1 34 = .ok (.iconst 0, 1) := by decide +kernel
theorem dX12_whyHire_35 : decode YX12_whyHire.2.1 35 = .ok (.ireturn, 1) := by decide +kernel
theorem dX12_whySend_0 : decode YX12_whySend.2.1 0 = .ok (.aload_n 0, 1) := by decide +kernel
theorem dX12_whySend_1 : decode YX12_whySend.2.1 1 = .ok (.getfield 33, 3) := by decide +kernel
theorem dX12_whySend_4 : decode YX12_whySend.2.1 4 = .ok (.sipush 133, 3) := by decide +kernel
theorem dX12_whySend_7 : decode YX12_whySend.2.1 7 = .ok (.iload_n 1, 1) := by decide +kernel
theorem dX12_whySend_8 : decode YX12_whySend.2.1 8 = .ok (.iadd, 1) := by decide +kernel
theorem dX12_whySend_9 : decode YX12_whySend.2.1 9 = .ok (.iaload, 1) := by decide +kernel
theorem dX12_whySend_10 : decode YX12_whySend.2.1 10 = .ok (.ifCond .le 5, 3) := by decide +kernel
theorem dX12_whySend_13 : decode YX12_whySend.2.1 13 = .ok (.iconst 1, 1) := by decide +kernel
theorem dX12_whySend_14 : decode YX12_whySend.2.1 14 = .ok (.ireturn, 1) := by decide +kernel
theorem dX12_whySend_15 : decode YX12_whySend.2.1 15 = .ok (.aload_n 0, 1) := by decide +kernel
theorem dX12_whySend_16 : decode YX12_whySend.2.1 16 = .ok (.getfield 33, 3) := by decide +kernel
theorem dX12_whySend_19 : decode YX12_whySend.2.1 19 = .ok (.sipush 145, 3) := by decide +kernel
theorem dX12_whySend_22 : decode YX12_whySend.2.1 22 = .ok (.iload_n 1, 1) := by decide +kernel
theorem dX12_whySend_23 : decode YX12_whySend.2.1 23 = .ok (.iadd, 1) := by decide +kernel
theorem dX12_whySend_24 : decode YX12_whySend.2.1 24 = .ok (.iaload, 1) := by decide +kernel
theorem dX12_whySend_25 : decode YX12_whySend.2.1 25 = .ok (.istore_n 3, 1) := by decide +kernel
theorem dX12_whySend_26 : decode YX12_whySend.2.1 26 = .ok (.iload_n 3, 1) := by decide +kernel
theorem dX12_whySend_27 : decode YX12_whySend.2.1 27 = .ok (.bipush 8, 2) := by decide +kernel
theorem dX12_whySend_29 : decode YX12_whySend.2.1 29 = .ok (.if_icmp .ne 5, 3) := by decide +kernel
theorem dX12_whySend_32 : decode YX12_whySend.2.1 32 = .ok (.iconst 2, 1) := by decide +kernel
theorem dX12_whySend_33 : decode YX12_whySend.2.1 33 = .ok (.ireturn, 1) := by decide +kernel
theorem dX12_whySend_34 : decode YX12_whySend.2.1 34 = .ok (.aload_n 0, 1) := by decide +kernel
theorem dX12_whySend_35 : decode YX12_whySend.2.1 35 = .ok (.iload_n 3, 1) := by decide +kernel
theorem dX12_whySend_36 : decode YX12_whySend.2.1 36 = .ok (.ifCond .ne 15, 3) := by decide +kernel
theorem dX12_whySend_39 : decode YX12_whySend.2.1 39 = .ok (.aload_n 0, 1) := by decide +kernel
theorem dX12_whySend_40 : decode YX12_whySend.2.1 40 = .ok (.getfield 33, 3) := by decide +kernel
theorem dX12_whySend_43 : decode YX12_whySend.2.1 43 = .ok (.bipush 91, 2) := by decide +kernel
theorem dX12_whySend_45 : decode YX12_whySend.2.1 45 = .ok (.iload_n 1, 1) := by decide +kernel
theorem dX12_whySend_46 : decode YX12_whySend.2.1 46 = .ok (.iadd, 1) := by decide +kernel
theorem dX12_whySend_47 : decode YX12_whySend.2.1 47 = .ok (.iaload, 1) := by decide +kernel
theorem dX12_whySend_48 : decode YX12_whySend.2.1 48 = .ok (.goto 20, 3) := by decide +kernel
theorem dX12_whySend_51 : decode YX12_whySend.2.1 51 = .ok (.aload_n 0, 1) := by decide +kernel
theorem dX12_whySend_52 : decode YX12_whySend.2.1 52 = .ok (.getfield 33, 3) := by decide +kernel
theorem dX12_whySend_55 : decode YX12_whySend.2.1 55 = .ok (.sipush 151, 3) := by decide +kernel
theorem dX12_whySend_58 : decode YX12_whySend.2.1 58 = .ok (.bipush 8, 2) := by decide +kernel
theorem dX12_whySend_60 : decode YX12_whySend.2.1 60 = .ok (.iload_n 1, 1) := by decide +kernel
theorem dX12_whySend_61 : decode YX12_whySend.2.1 61 = .ok (.imul, 1) := by decide +kernel
theorem dX12_whySend_62 : decode YX12_whySend.2.1 62 = .ok (.iadd, 1) := by decide +kernel
theorem dX12_whySend_63 : decode YX12_whySend.2.1 63 = .ok (.iload_n 3, 1) := by decide +kernel
theorem dX12_whySend_64 : decode YX12_whySend.2.1 64 = .ok (.iadd, 1) := by decide +kernel
theorem dX12_whySend_65 : decode YX12_whySend.2.1 65 = .ok (.iconst 1, 1) := by decide +kernel
theorem dX12_whySend_66 : decode YX12_whySend.2.1 66 = .ok (.isub, 1) := by decide +kernel
theorem dX12_whySend_67 : decode YX12_whySend.2.1 67 = .ok (.iaload, 1) := by decide +kernel
theorem dX12_whySend_68 : decode YX12_whySend.2.1 68 = .ok (.iload_n 2, 1) := by decide +kernel
theorem dX12_whySend_69 : decode YX12_whySend.2.1 69 = .ok (.invokevirtual 259, 3) := by decide +kernel
theorem dX12_whySend_72 : decode YX12_whySend.2.1 72 = .ok (.ifCond .eq 7, 3) := by decide +kernel
theorem dX12_whySend_75 : decode YX12_whySend.2.1 75 = .ok (.iconst 0, 1) := by decide +kernel
theorem dX12_whySend_76 : decode YX12_whySend.2.1 76 = .ok (.goto 4, 3) := by decide +kernel
theorem dX12_whySend_79 : decode YX12_whySend.2.1 79 = .ok (.iconst 3, 1) := by decide +kernel
theorem dX12_whySend_80 : decode YX12_whySend.2.1 80 = .ok (.ireturn, 1) := by decide +kernel
theorem dX12_worthBy_0 : decode YX12_worthBy.2.1 0 = .ok (.iload_n 3, 1) := by decide +kernel
theorem dX12_worthBy_1 : decode YX12_worthBy.2.1 1 = .ok (.ifCond .ge 19, 3) := by decide +kernel
theorem dX12_worthBy_4 : decode YX12_worthBy.2.1 4 = .ok (.aload_n 0, 1) := by decide +kernel
theorem dX12_worthBy_5 : decode YX12_worthBy.2.1 5 = .ok (.getfield 68, 3) := by decide +kernel
theorem dX12_worthBy_8 : decode YX12_worthBy.2.1 8 = .ok (.bipush 64, 2) := by decide +kernel
theorem dX12_worthBy_10 : decode YX12_worthBy.2.1 10 = .ok (.iload_n 1, 1) := by decide +kernel
theorem dX12_worthBy_11 : decode YX12_worthBy.2.1 11 = .ok (.iconst 1, 1) := by decide +kernel
theorem dX12_worthBy_12 : decode YX12_worthBy.2.1 12 = .ok (.iadd, 1) := by decide +kernel
theorem dX12_worthBy_13 : decode YX12_worthBy.2.1 13 = .ok (.imul, 1) := by decide +kernel
theorem dX12_worthBy_14 : decode YX12_worthBy.2.1 14 = .ok (.iload_n 2, 1) := by decide +kernel
theorem dX12_worthBy_15 : decode YX12_worthBy.2.1 15 = .ok (.iadd, 1) := by decide +kernel
theorem dX12_worthBy_16 : decode YX12_worthBy.2.1 16 = .ok (.iaload, 1) := by decide +kernel
theorem dX12_worthBy_17 : decode YX12_worthBy.2.1 17 = .ok (.goto 52, 3) := by decide +kernel
theorem dX12_worthBy_20 : decode YX12_worthBy.2.1 20 = .ok (.sipush 1000, 3) := by decide +kernel
theorem dX12_worthBy_23 : decode YX12_worthBy.2.1 23 = .ok (.aload_n 0, 1) := by decide +kernel
theorem dX12_worthBy_24 : decode YX12_worthBy.2.1 24 = .ok (.getfield 50, 3) := by decide +kernel
theorem dX12_worthBy_27 : decode YX12_worthBy.2.1 27 = .ok (.bipush 8, 2) := by decide +kernel
theorem dX12_worthBy_29 : decode YX12_worthBy.2.1 29 = .ok (.aload_n 0, 1) := by decide +kernel
theorem dX12_worthBy_30 : decode YX12_worthBy.2.1 30 = .ok (.getfield 33, 3) := by decide +kernel
theorem dX12_worthBy_33 : decode YX12_worthBy.2.1 33 = .ok (.bipush 91, 2) := by decide +kernel
theorem dX12_worthBy_35 : decode YX12_worthBy.2.1 35 = .ok (.iload_n 3, 1) := by decide +kernel
theorem dX12_worthBy_36 : decode YX12_worthBy.2.1 36 = .ok (.iadd, 1) := by decide +kernel
theorem dX12_worthBy_37 : decode YX12_worthBy.2.1 37 = .ok (.iaload, 1) := by decide +kernel
theorem dX12_worthBy_38 : decode YX12_worthBy.2.1 38 = .ok (.imul, 1) := by decide +kernel
theorem dX12_worthBy_39 : decode YX12_worthBy.2.1 39 = .ok (.aload_n 0, 1) := by decide +kernel
theorem dX12_worthBy_40 : decode YX12_worthBy.2.1 40 = .ok (.getfield 33, 3) := by decide +kernel
theorem dX12_worthBy_43 : decode YX12_worthBy.2.1 43 = .ok (.bipush 91, 2) := by decide +kernel
theorem dX12_worthBy_45 : decode YX12_worthBy.2.1 45 = .ok (.iload_n 1, 1) := by decide +kernel
theorem dX12_worthBy_46 : decode YX12_worthBy.2.1 46 = .ok (.iadd, 1) := by decide +kernel
theorem dX12_worthBy_47 : decode YX12_worthBy.2.1 47 = .ok (.iaload, 1) := by decide +kernel
theorem dX12_worthBy_48 : decode YX12_worthBy.2.1 48 = .ok (.iadd, 1) := by decide +kernel
theorem dX12_worthBy_49 : decode YX12_worthBy.2.1 49 = .ok (.iaload, 1) := by decide +kernel
theorem dX12_worthBy_50 : decode YX12_worthBy.2.1 50 = .ok (.isub, 1) := by decide +kernel
theorem dX12_worthBy_51 : decode YX12_worthBy.2.1 51 = .ok (.aload_n 0, 1) := by decide +kernel
theorem dX12_worthBy_52 : decode YX12_worthBy.2.1 52 = .ok (.getfield 68, 3) := by decide +kernel
theorem dX12_worthBy_55 : decode YX12_worthBy.2.1 55 = .ok (.bipush 64, 2) := by decide +kernel
theorem dX12_worthBy_57 : decode YX12_worthBy.2.1 57 = .ok (.iload_n 1, 1) := by decide +kernel
theorem dX12_worthBy_58 : decode YX12_worthBy.2.1 58 = .ok (.iconst 1, 1) := by decide +kernel
theorem dX12_worthBy_59 : decode YX12_worthBy.2.1 59 = .ok (.iadd, 1) := by decide +kernel
theorem dX12_worthBy_60 : decode YX12_worthBy.2.1 60 = .ok (.imul, 1) := by decide +kernel
theorem dX12_worthBy_61 : decode YX12_worthBy.2.1 61 = .ok (.iload_n 2, 1) := by decide +kernel
theorem dX12_worthBy_62 : decode YX12_worthBy.2.1 62 = .ok (.iconst 1, 1) := by decide +kernel
theorem dX12_worthBy_63 : decode YX12_worthBy.2.1 63 = .ok (.iload_n 3, 1) := by decide +kernel
theorem dX12_worthBy_64 : decode YX12_worthBy.2.1 64 = .ok (.ishl, 1) := by decide +kernel
theorem dX12_worthBy_65 : decode YX12_worthBy.2.1 65 = .ok (.ior, 1) := by decide +kernel
theorem dX12_worthBy_66 : decode YX12_worthBy.2.1 66 = .ok (.iadd, 1) := by decide +kernel
theorem dX12_worthBy_67 : decode YX12_worthBy.2.1 67 = .ok (.iaload, 1) := by decide +kernel
theorem dX12_worthBy_68 : decode YX12_worthBy.2.1 68 = .ok (.iadd, 1) := by decide +kernel
theorem dX12_worthBy_69 : decode YX12_worthBy.2.1 69 = .ok (.ireturn, 1) := by decide +kernel
theorem dX1_allPrints_0 : decode YX1_allPrints.2.1 0 = .ok (.iconst 0, 1) := by decide +kernel
theorem dX1_allPrints_1 : decode YX1_allPrints.2.1 1 = .ok (.istore_n 1, 1) := by decide +kernel
theorem dX1_allPrints_2 : decode YX1_allPrints.2.1 2 = .ok (.iconst 0, 1) := by decide +kernel
theorem dX1_allPrints_3 : decode YX1_allPrints.2.1 3 = .ok (.istore_n 2, 1) := by decide +kernel
theorem dX1_allPrints_4 : decode YX1_allPrints.2.1 4 = .ok (.iload_n 2, 1) := by decide +kernel
theorem dX1_allPrints_5 : decode YX1_allPrints.2.1 5 = .ok (.bipush 8, 2) := by decide +kernel
theorem dX1_allPrints_7 : decode YX1_allPrints.2.1 7 = .ok (.if_icmp .ge 18, 3) := by decide +kernel
theorem dX1_allPrints_10 : decode YX1_allPrints.2.1 10 = .ok (.iload_n 1, 1) := by decide +kernel
theorem dX1_allPrints_11 : decode YX1_allPrints.2.1 11 = .ok (.aload_n 0, 1) := by decide +kernel
theorem dX1_allPrints_12 : decode YX1_allPrints.2.1 12 = .ok (.getfield 33, 3) := by decide +kernel
theorem dX1_allPrints_15 : decode YX1_allPrints.2.1 15 = .ok (.iload_n 2, 1) := by decide +kernel
theorem dX1_allPrints_16 : decode YX1_allPrints.2.1 16 = .ok (.iaload, 1) := by decide +kernel
theorem dX1_allPrints_17 : decode YX1_allPrints.2.1 17 = .ok (.iadd, 1) := by decide +kernel
theorem dX1_allPrints_18 : decode YX1_allPrints.2.1 18 = .ok (.istore_n 1, 1) := by decide +kernel
theorem dX1_allPrints_19 : decode YX1_allPrints.2.1 19 = .ok (.iinc 2 1, 3) := by decide +kernel
theorem dX1_allPrints_22 : decode YX1_allPrints.2.1 22 = .ok (.goto (-18), 3) := by decide +kernel
theorem dX1_allPrints_25 : decode YX1_allPrints.2.1 25 = .ok (.iload_n 1, 1) := by decide +kernel
theorem dX1_allPrints_26 : decode YX1_allPrints.2.1 26 = .ok (.ireturn, 1) := by decide +kernel
theorem dX1_begin_0 : decode YX1_begin.2.1 0 = .ok (.iload_n 1, 1) := by decide +kernel
theorem dX1_begin_1 : decode YX1_begin.2.1 1 = .ok (.invokestatic 58, 3) := by decide +kernel
theorem dX1_begin_4 : decode YX1_begin.2.1 4 = .ok (.ifCond .eq 39, 3) := by decide +kernel
theorem dX1_begin_7 : decode YX1_begin.2.1 7 = .ok (.iconst 0, 1) := by decide +kernel
theorem dX1_begin_8 : decode YX1_begin.2.1 8 = .ok (.istore 4, 2) := by decide +kernel
theorem dX1_begin_10 : decode YX1_begin.2.1 10 = .ok (.iload 4, 2) := by decide +kernel
theorem dX1_begin_12 : decode YX1_begin.2.1 12 = .ok (.bipush 6, 2) := by decide +kernel
theorem dX1_begin_14 : decode YX1_begin.2.1 14 = .ok (.if_icmp .ge 22, 3) := by decide +kernel
theorem dX1_begin_17 : decode YX1_begin.2.1 17 = .ok (.aload_n 0, 1) := by decide +kernel
theorem dX1_begin_18 : decode YX1_begin.2.1 18 = .ok (.getfield 9, 3) := by decide +kernel
theorem dX1_begin_21 : decode YX1_begin.2.1 21 = .ok (.iload_n 1, 1) := by decide +kernel
theorem dX1_begin_22 : decode YX1_begin.2.1 22 = .ok (.bipush 6, 2) := by decide +kernel
theorem dX1_begin_24 : decode YX1_begin.2.1 24 = .ok (.imul, 1) := by decide +kernel
theorem dX1_begin_25 : decode YX1_begin.2.1 25 = .ok (.iload 4, 2) := by decide +kernel
theorem dX1_begin_27 : decode YX1_begin.2.1 27 = .ok (.iadd, 1) := by decide +kernel
theorem dX1_begin_28 : decode YX1_begin.2.1 28 = .ok (.iload_n 2, 1) := by decide +kernel
theorem dX1_begin_29 : decode YX1_begin.2.1 29 = .ok (.iastore, 1) := by decide +kernel
theorem dX1_begin_30 : decode YX1_begin.2.1 30 = .ok (.iinc 4 1, 3) := by decide +kernel
theorem dX1_begin_33 : decode YX1_begin.2.1 33 = .ok (.goto (-23), 3) := by decide +kernel
theorem dX1_begin_36 : decode YX1_begin.2.1 36 = .ok (.aload_n 0, 1) := by decide +kernel
theorem dX1_begin_37 : decode YX1_begin.2.1 37 = .ok (.getfield 15, 3) := by decide +kernel
theorem dX1_begin_40 : decode YX1_begin.2.1 40 = .ok (.iload_n 1, 1) := by decide +kernel
theorem dX1_begin_41 : decode YX1_begin.2.1 41 = .ok (.iload_n 3, 1) := by decide +kernel
theorem dX1_begin_42 : decode YX1_begin.2.1 42 = .ok (.iastore, 1) := by decide +kernel
theorem dX1_begin_43 : decode YX1_begin.2.1 43 = .ok (.return_, 1) := by decide +kernel
theorem dX1_bunsAt_0 : decode YX1_bunsAt.2.1 0 = .ok (.iload_n 1, 1) := by decide +kernel
theorem dX1_bunsAt_1 : decode YX1_bunsAt.2.1 1 = .ok (.invokestatic 66, 3) := by decide +kernel
theorem dX1_bunsAt_4 : decode YX1_bunsAt.2.1 4 = .ok (.ifCond .eq 12, 3) := by decide +kernel
theorem dX1_bunsAt_7 : decode YX1_bunsAt.2.1 7 = .ok (.aload_n 0, 1) := by decide +kernel
theorem dX1_bunsAt_8 : decode YX1_bunsAt.2.1 8 = .ok (.getfield 30, 3) := by decide +kernel
theorem dX1_bunsAt_11 : decode YX1_bunsAt.2.1 11 = .ok (.iload_n 1, 1) := by decide +kernel
theorem dX1_bunsAt_12 : decode YX1_bunsAt.2.1 12 = .ok (.iaload, 1) := by decide +kernel
theorem dX1_bunsAt_13 : decode YX1_bunsAt.2.1 13 = .ok (.goto 4, 3) := by decide +kernel
theorem dX1_bunsAt_16 : decode YX1_bunsAt.2.1 16 = .ok (.iconst 0, 1) := by decide +kernel
theorem dX1_bunsAt_17 : decode YX1_bunsAt.2.1 17 = .ok (.ireturn, 1) := by decide +kernel
theorem dX1_bunsFound_0 : decode YX1_bunsFound.2.1 0 = .ok (.aload_n 0, 1) := by decide +kernel
theorem dX1_bunsFound_1 : decode YX1_bunsFound.2.1 1 = .ok (.getfield 49, 3) := by decide +kernel
theorem dX1_bunsFound_4 : decode YX1_bunsFound.2.1 4 = .ok (.ireturn, 1) := by decide +kernel
theorem dX1_bunsOf_0 : decode YX1_bunsOf.2.1 0 = .ok (.iload_n 1, 1) := by decide +kernel
theorem dX1_bunsOf_1 : decode YX1_bunsOf.2.1 1 = .ok (.invokestatic 58, 3) := by decide +kernel
theorem dX1_bunsOf_4 : decode YX1_bunsOf.2.1 4 = .ok (.ifCond .eq 12, 3) := by decide +kernel
theorem dX1_bunsOf_7 : decode YX1_bunsOf.2.1 7 = .ok (.aload_n 0, 1) := by decide +kernel
theorem dX1_bunsOf_8 : decode YX1_bunsOf.2.1 8 = .ok (.getfield 15, 3) := by decide +kernel
theorem dX1_bunsOf_11 : decode YX1_bunsOf.2.1 11 = .ok (.iload_n 1, 1) := by decide +kernel
theorem dX1_bunsOf_12 : decode YX1_bunsOf.2.1 12 = .ok (.iaload, 1) := by decide +kernel
theorem dX1_bunsOf_13 : decode YX1_bunsOf.2.1 13 = .ok (.goto 4, 3) := by decide +kernel
theorem dX1_bunsOf_16 : decode YX1_bunsOf.2.1 16 = .ok (.iconst 0, 1) := by decide +kernel
theorem dX1_bunsOf_17 : decode YX1_bunsOf.2.1 17 = .ok (.ireturn, 1) := by decide +kernel
theorem dX1_clear_0 : decode YX1_clear.2.1 0 = .ok (.aload_n 0, 1) := by decide +kernel
theorem dX1_clear_1 : decode YX1_clear.2.1 1 = .ok (.getfield 9, 3) := by decide +kernel
theorem dX1_clear_4 : decode YX1_clear.2.1 4 = .ok (.iconst (-1), 1) := by decide +kernel
theorem dX1_clear_5 : decode YX1_clear.2.1 5 = .ok (.invokestatic 39, 3) := by decide +kernel
theorem dX1_clear_8 : decode YX1_clear.2.1 8 = .ok (.aload_n 0, 1) := by decide +kernel
theorem dX1_clear_9 : decode YX1_clear.2.1 9 = .ok (.getfield 18, 3) := by decide +kernel
theorem dX1_clear_12 : decode YX1_clear.2.1 12 = .ok (.iconst (-1), 1) := by decide +kernel
theorem dX1_clear_13 : decode YX1_clear.2.1 13 = .ok (.invokestatic 39, 3) := by decide +kernel
theorem dX1_clear_16 : decode YX1_clear.2.1 16 = .ok (.aload_n 0, 1) := by decide +kernel
theorem dX1_clear_17 : decode YX1_clear.2.1 17 = .ok (.getfield 21, 3) := by decide +kernel
theorem dX1_clear_20 : decode YX1_clear.2.1 20 = .ok (.iconst (-1), 1) := by decide +kernel
theorem dX1_clear_21 : decode YX1_clear.2.1 21 = .ok (.invokestatic 39, 3) := by decide +kernel
theorem dX1_clear_24 : decode YX1_clear.2.1 24 = .ok (.aload_n 0, 1) := by decide +kernel
theorem dX1_clear_25 : decode YX1_clear.2.1 25 = .ok (.getfield 15, 3) := by decide +kernel
theorem dX1_clear_28 : decode YX1_clear.2.1 28 = .ok (.iconst 0, 1) := by decide +kernel
theorem dX1_clear_29 : decode YX1_clear.2.1 29 = .ok (.invokestatic 39, 3) := by decide +kernel
theorem dX1_clear_32 : decode YX1_clear.2.1 32 = .ok (.aload_n 0, 1) := by decide +kernel
theorem dX1_clear_33 : decode YX1_clear.2.1 33 = .ok (.getfield 27, 3) := by decide +kernel
theorem dX1_clear_36 : decode YX1_clear.2.1 36 = .ok (.iconst 0, 1) := by decide +kernel
theorem dX1_clear_37 : decode YX1_clear.2.1 37 = .ok (.invokestatic 39, 3) := by decide +kernel
theorem dX1_clear_40 : decode YX1_clear.2.1 40 = .ok (.aload_n 0, 1) := by decide +kernel
theorem dX1_clear_41 : decode YX1_clear.2.1 41 = .ok (.getfield 30, 3) := by decide +kernel
theorem dX1_clear_44 : decode YX1_clear.2.1 44 = .ok (.iconst 0, 1) := by decide +kernel
theorem dX1_clear_45 : decode YX1_clear.2.1 45 = .ok (.invokestatic 39, 3) := by decide +kernel
theorem dX1_clear_48 : decode YX1_clear.2.1 48 = .ok (.aload_n 0, 1) := by decide +kernel
theorem dX1_clear_49 : decode YX1_clear.2.1 49 = .ok (.getfield 33, 3) := by decide +kernel
theorem dX1_clear_52 : decode YX1_clear.2.1 52 = .ok (.iconst 0, 1) := by decide +kernel
theorem dX1_clear_53 : decode YX1_clear.2.1 53 = .ok (.invokestatic 39, 3) := by decide +kernel
theorem dX1_clear_56 : decode YX1_clear.2.1 56 = .ok (.aload_n 0, 1) := by decide +kernel
theorem dX1_clear_57 : decode YX1_clear.2.1 57 = .ok (.iconst 0, 1) := by decide +kernel
theorem dX1_clear_58 : decode YX1_clear.2.1 58 = .ok (.putfield 45, 3) := by decide +kernel
theorem dX1_clear_61 : decode YX1_clear.2.1 61 = .ok (.aload_n 0, 1) := by decide +kernel
theorem dX1_clear_62 : decode YX1_clear.2.1 62 = .ok (.iconst 0, 1) := by decide +kernel
theorem dX1_clear_63 : decode YX1_clear.2.1 63 = .ok (.putfield 49, 3) := by decide +kernel
theorem dX1_clear_66 : decode YX1_clear.2.1 66 = .ok (.return_, 1) := by decide +kernel
theorem dX1_copyFrom_0 : decode YX1_copyFrom.2.1 0 = .ok (.aload_n 1, 1) := by decide +kernel
theorem dX1_copyFrom_1 : decode YX1_copyFrom.2.1 1 = .ok (.getfield 9, 3) := by decide +kernel
theorem dX1_copyFrom_4 : decode YX1_copyFrom.2.1 4 = .ok (.iconst 0, 1) := by decide +kernel
theorem dX1_copyFrom_5 : decode YX1_copyFrom.2.1 5 = .ok (.aload_n 0, 1) := by decide +kernel
theorem dX1_copyFrom_6 : decode YX1_copyFrom.2.1 6 = .ok (.getfield 9, 3) := by decide +kernel
theorem dX1_copyFrom_9 : decode YX1_copyFrom.2.1 9 = .ok (.iconst 0, 1) := by decide +kernel
theorem dX1_copyFrom_10 : decode YX1_copyFrom.2.1 10 = .ok (.bipush 36, 2) := by decide +kernel
theorem dX1_copyFrom_12 : decode YX1_copyFrom.2.1 12 = .ok (.invokestatic 52, 3) := by decide +kernel
theorem dX1_copyFrom_15 : decode YX1_copyFrom.2.1 15 = .ok (.aload_n 1, 1) := by decide +kernel
theorem dX1_copyFrom_16 : decode YX1_copyFrom.2.1 16 = .ok (.getfield 15, 3) := by decide +kernel
theorem dX1_copyFrom_19 : decode YX1_copyFrom.2.1 19 = .ok (.iconst 0, 1) := by decide +kernel
theorem dX1_copyFrom_20 : decode YX1_copyFrom.2.1 20 = .ok (.aload_n 0, 1) := by decide +kernel
theorem dX1_copyFrom_21 : decode YX1_copyFrom.2.1 21 = .ok (.getfield 15, 3) := by decide +kernel
theorem dX1_copyFrom_24 : decode YX1_copyFrom.2.1 24 = .ok (.iconst 0, 1) := by decide +kernel
theorem dX1_copyFrom_25 : decode YX1_copyFrom.2.1 25 = .ok (.bipush 6, 2) := by decide +kernel
theorem dX1_copyFrom_27 : decode YX1_copyFrom.2.1 27 = .ok (.invokestatic 52, 3) := by decide +kernel
theorem dX1_copyFrom_30 : decode YX1_copyFrom.2.1 30 = .ok (.aload_n 1, 1) := by decide +kernel
theorem dX1_copyFrom_31 : decode YX1_copyFrom.2.1 31 = .ok (.getfield 18, 3) := by decide +kernel
theorem dX1_copyFrom_34 : decode YX1_copyFrom.2.1 34 = .ok (.iconst 0, 1) := by decide +kernel
theorem dX1_copyFrom_35 : decode YX1_copyFrom.2.1 35 = .ok (.aload_n 0, 1) := by decide +kernel
theorem dX1_copyFrom_36 : decode YX1_copyFrom.2.1 36 = .ok (.getfield 18, 3) := by decide +kernel
theorem dX1_copyFrom_39 : decode YX1_copyFrom.2.1 39 = .ok (.iconst 0, 1) := by decide +kernel
theorem dX1_copyFrom_40 : decode YX1_copyFrom.2.1 40 = .ok (.bipush 6, 2) := by decide +kernel
theorem dX1_copyFrom_42 : decode YX1_copyFrom.2.1 42 = .ok (.invokestatic 52, 3) := by decide +kernel
theorem dX1_copyFrom_45 : decode YX1_copyFrom.2.1 45 = .ok (.aload_n 1, 1) := by decide +kernel
theorem dX1_copyFrom_46 : decode YX1_copyFrom.2.1 46 = .ok (.getfield 21, 3) := by decide +kernel
theorem dX1_copyFrom_49 : decode YX1_copyFrom.2.1 49 = .ok (.iconst 0, 1) := by decide +kernel
theorem dX1_copyFrom_50 : decode YX1_copyFrom.2.1 50 = .ok (.aload_n 0, 1) := by decide +kernel
theorem dX1_copyFrom_51 : decode YX1_copyFrom.2.1 51 = .ok (.getfield 21, 3) := by decide +kernel
theorem dX1_copyFrom_54 : decode YX1_copyFrom.2.1 54 = .ok (.iconst 0, 1) := by decide +kernel
theorem dX1_copyFrom_55 : decode YX1_copyFrom.2.1 55 = .ok (.bipush 6, 2) := by decide +kernel
theorem dX1_copyFrom_57 : decode YX1_copyFrom.2.1 57 = .ok (.invokestatic 52, 3) := by decide +kernel
theorem dX1_copyFrom_60 : decode YX1_copyFrom.2.1 60 = .ok (.aload_n 1, 1) := by decide +kernel
theorem dX1_copyFrom_61 : decode YX1_copyFrom.2.1 61 = .ok (.getfield 24, 3) := by decide +kernel
theorem dX1_copyFrom_64 : decode YX1_copyFrom.2.1 64 = .ok (.iconst 0, 1) := by decide +kernel
theorem dX1_copyFrom_65 : decode YX1_copyFrom.2.1 65 = .ok (.aload_n 0, 1) := by decide +kernel
theorem dX1_copyFrom_66 : decode YX1_copyFrom.2.1 66 = .ok (.getfield 24, 3) := by decide +kernel
theorem dX1_copyFrom_69 : decode YX1_copyFrom.2.1 69 = .ok (.iconst 0, 1) := by decide +kernel
theorem dX1_copyFrom_70 : decode YX1_copyFrom.2.1 70 = .ok (.bipush 48, 2) := by decide +kernel
theorem dX1_copyFrom_72 : decode YX1_copyFrom.2.1 72 = .ok (.invokestatic 52, 3) := by decide +kernel
theorem dX1_copyFrom_75 : decode YX1_copyFrom.2.1 75 = .ok (.aload_n 1, 1) := by decide +kernel
theorem dX1_copyFrom_76 : decode YX1_copyFrom.2.1 76 = .ok (.getfield 27, 3) := by decide +kernel
theorem dX1_copyFrom_79 : decode YX1_copyFrom.2.1 79 = .ok (.iconst 0, 1) := by decide +kernel
theorem dX1_copyFrom_80 : decode YX1_copyFrom.2.1 80 = .ok (.aload_n 0, 1) := by decide +kernel
theorem dX1_copyFrom_81 : decode YX1_copyFrom.2.1 81 = .ok (.getfield 27, 3) := by decide +kernel
theorem dX1_copyFrom_84 : decode YX1_copyFrom.2.1 84 = .ok (.iconst 0, 1) := by decide +kernel
theorem dX1_copyFrom_85 : decode YX1_copyFrom.2.1 85 = .ok (.bipush 6, 2) := by decide +kernel
theorem dX1_copyFrom_87 : decode YX1_copyFrom.2.1 87 = .ok (.invokestatic 52, 3) := by decide +kernel
theorem dX1_copyFrom_90 : decode YX1_copyFrom.2.1 90 = .ok (.aload_n 1, 1) := by decide +kernel
theorem dX1_copyFrom_91 : decode YX1_copyFrom.2.1 91 = .ok (.getfield 30, 3) := by decide +kernel
theorem dX1_copyFrom_94 : decode YX1_copyFrom.2.1 94 = .ok (.iconst 0, 1) := by decide +kernel
theorem dX1_copyFrom_95 : decode YX1_copyFrom.2.1 95 = .ok (.aload_n 0, 1) := by decide +kernel
theorem dX1_copyFrom_96 : decode YX1_copyFrom.2.1 96 = .ok (.getfield 30, 3) := by decide +kernel
theorem dX1_copyFrom_99 : decode YX1_copyFrom.2.1 99 = .ok (.iconst 0, 1) := by decide +kernel
theorem dX1_copyFrom_100 : decode YX1_copyFrom.2.1 100 = .ok (.bipush 8, 2) := by decide +kernel
theorem dX1_copyFrom_102 : decode YX1_copyFrom.2.1 102 = .ok (.invokestatic 52, 3) := by decide +kernel
theorem dX1_copyFrom_105 : decode YX1_copyFrom.2.1 105 = .ok (.aload_n 1, 1) := by decide +kernel
theorem dX1_copyFrom_106 : decode YX1_copyFrom.2.1 106 = .ok (.getfield 33, 3) := by decide +kernel
theorem dX1_copyFrom_109 : decode YX1_copyFrom.2.1 109 = .ok (.iconst 0, 1) := by decide +kernel
theorem dX1_copyFrom_110 : decode YX1_copyFrom.2.1 110 = .ok (.aload_n 0, 1) := by decide +kernel
theorem dX1_copyFrom_111 : decode YX1_copyFrom.2.1 111 = .ok (.getfield 33, 3) := by decide +kernel
theorem dX1_copyFrom_114 : decode YX1_copyFrom.2.1 114 = .ok (.iconst 0, 1) := by decide +kernel
theorem dX1_copyFrom_115 : decode YX1_copyFrom.2.1 115 = .ok (.bipush 8, 2) := by decide +kernel
theorem dX1_copyFrom_117 : decode YX1_copyFrom.2.1 117 = .ok (.invokestatic 52, 3) := by decide +kernel
theorem dX1_copyFrom_120 : decode YX1_copyFrom.2.1 120 = .ok (.aload_n 0, 1) := by decide +kernel
theorem dX1_copyFrom_121 : decode YX1_copyFrom.2.1 121 = .ok (.aload_n 1, 1) := by decide +kernel
theorem dX1_copyFrom_122 : decode YX1_copyFrom.2.1 122 = .ok (.getfield 45, 3) := by decide +kernel
theorem dX1_copyFrom_125 : decode YX1_copyFrom.2.1 125 = .ok (.putfield 45, 3) := by decide +kernel
theorem dX1_copyFrom_128 : decode YX1_copyFrom.2.1 128 = .ok (.aload_n 0, 1) := by decide +kernel
theorem dX1_copyFrom_129 : decode YX1_copyFrom.2.1 129 = .ok (.aload_n 1, 1) := by decide +kernel
theorem dX1_copyFrom_130 : decode YX1_copyFrom.2.1 130 = .ok (.getfield 49, 3) := by decide +kernel
theorem dX1_copyFrom_133 : decode YX1_copyFrom.2.1 133 = .ok (.putfield 49, 3) := by decide +kernel
theorem dX1_copyFrom_136 : decode YX1_copyFrom.2.1 136 = .ok (.return_, 1) := by decide +kernel
theorem dX1_dropsBun_0 : decode YX1_dropsBun.2.1 0 = .ok (.aload_n 0, 1) := by decide +kernel
theorem dX1_dropsBun_1 : decode YX1_dropsBun.2.1 1 = .ok (.iload_n 1, 1) := by decide +kernel
theorem dX1_dropsBun_2 : decode YX1_dropsBun.2.1 2 = .ok (.invokevirtual 88, 3) := by decide +kernel
theorem dX1_dropsBun_5 : decode YX1_dropsBun.2.1 5 = .ok (.istore_n 2, 1) := by decide +kernel
theorem dX1_dropsBun_6 : decode YX1_dropsBun.2.1 6 = .ok (.aload_n 0, 1) := by decide +kernel
theorem dX1_dropsBun_7 : decode YX1_dropsBun.2.1 7 = .ok (.iload_n 1, 1) := by decide +kernel
theorem dX1_dropsBun_8 : decode YX1_dropsBun.2.1 8 = .ok (.invokevirtual 96, 3) := by decide +kernel
theorem dX1_dropsBun_11 : decode YX1_dropsBun.2.1 11 = .ok (.iconst 1, 1) := by decide +kernel
theorem dX1_dropsBun_12 : decode YX1_dropsBun.2.1 12 = .ok (.if_icmp .lt 17, 3) := by decide +kernel
theorem dX1_dropsBun_15 : decode YX1_dropsBun.2.1 15 = .ok (.iload_n 1, 1) := by decide +kernel
theorem dX1_dropsBun_16 : decode YX1_dropsBun.2.1 16 = .ok (.invokestatic 58, 3) := by decide +kernel
theorem dX1_dropsBun_19 : decode YX1_dropsBun.2.1 19 = .ok (.ifCond .eq 10, 3) := by decide +kernel
theorem dX1_dropsBun_22 : decode YX1_dropsBun.2.1 22 = .ok (.iload_n 2, 1) := by decide +kernel
theorem dX1_dropsBun_23 : decode YX1_dropsBun.2.1 23 = .ok (.invokestatic 66, 3) := by decide +kernel
theorem dX1_dropsBun_26 : decode YX1_dropsBun.2.1 26 = .ok (.ifCond .ne 5, 3) := by decide +kernel
theorem dX1_dropsBun_29 : decode YX1_dropsBun.2.1 29 = .ok (.iconst 1, 1) := by decide +kernel
theorem dX1_dropsBun_30 : decode YX1_dropsBun.2.1 30 = .ok (.ireturn, 1) := by decide +kernel
theorem dX1_dropsBun_31 : decode YX1_dropsBun.2.1 31 = .ok (.aload_n 0, 1) := by decide +kernel
theorem dX1_dropsBun_32 : decode YX1_dropsBun.2.1 32 = .ok (.getfield 15, 3) := by decide +kernel
theorem dX1_dropsBun_35 : decode YX1_dropsBun.2.1 35 = .ok (.iload_n 1, 1) := by decide +kernel
theorem dX1_dropsBun_36 : decode YX1_dropsBun.2.1 36 = .ok (.dup2, 1) := by decide +kernel
theorem dX1_dropsBun_37 : decode YX1_dropsBun.2.1 37 = .ok (.iaload, 1) := by decide +kernel
theorem dX1_dropsBun_38 : decode YX1_dropsBun.2.1 38 = .ok (.iconst 1, 1) := by decide +kernel
theorem dX1_dropsBun_39 : decode YX1_dropsBun.2.1 39 = .ok (.isub, 1) := by decide +kernel
theorem dX1_dropsBun_40 : decode YX1_dropsBun.2.1 40 = .ok (.iastore, 1) := by decide +kernel
theorem dX1_dropsBun_41 : decode YX1_dropsBun.2.1 41 = .ok (.aload_n 0, 1) := by decide +kernel
theorem dX1_dropsBun_42 : decode YX1_dropsBun.2.1 42 = .ok (.getfield 30, 3) := by decide +kernel
theorem dX1_dropsBun_45 : decode YX1_dropsBun.2.1 45 = .ok (.iload_n 2, 1) := by decide +kernel
theorem dX1_dropsBun_46 : decode YX1_dropsBun.2.1 46 = .ok (.dup2, 1) := by decide +kernel
theorem dX1_dropsBun_47 : decode YX1_dropsBun.2.1 47 = .ok (.iaload, 1) := by decide +kernel
theorem dX1_dropsBun_48 : decode YX1_dropsBun.2.1 48 = .ok (.iconst 1, 1) := by decide +kernel
theorem dX1_dropsBun_49 : decode YX1_dropsBun.2.1 49 = .ok (.iadd, 1) := by decide +kernel
theorem dX1_dropsBun_50 : decode YX1_dropsBun.2.1 50 = .ok (.iastore, 1) := by decide +kernel
theorem dX1_dropsBun_51 : decode YX1_dropsBun.2.1 51 = .ok (.iconst 0, 1) := by decide +kernel
theorem dX1_dropsBun_52 : decode YX1_dropsBun.2.1 52 = .ok (.ireturn, 1) := by decide +kernel
theorem dX1_findBun_0 : decode YX1_findBun.2.1 0 = .ok (.aload_n 0, 1) := by decide +kernel
theorem dX1_findBun_1 : decode YX1_findBun.2.1 1 = .ok (.iload_n 1, 1) := by decide +kernel
theorem dX1_findBun_2 : decode YX1_findBun.2.1 2 = .ok (.invokevirtual 88, 3) := by decide +kernel
theorem dX1_findBun_5 : decode YX1_findBun.2.1 5 = .ok (.istore_n 2, 1) := by decide +kernel
theorem dX1_findBun_6 : decode YX1_findBun.2.1 6 = .ok (.aload_n 0, 1) := by decide +kernel
theorem dX1_findBun_7 : decode YX1_findBun.2.1 7 = .ok (.getfield 18, 3) := by decide +kernel
theorem dX1_findBun_10 : decode YX1_findBun.2.1 10 = .ok (.iload_n 1, 1) := by decide +kernel
theorem dX1_findBun_11 : decode YX1_findBun.2.1 11 = .ok (.iaload, 1) := by decide +kernel
theorem dX1_findBun_12 : decode YX1_findBun.2.1 12 = .ok (.iconst (-1), 1) := by decide +kernel
theorem dX1_findBun_13 : decode YX1_findBun.2.1 13 = .ok (.if_icmp .eq 48, 3) := by decide +kernel
theorem dX1_findBun_16 : decode YX1_findBun.2.1 16 = .ok (.aload_n 0, 1) := by decide +kernel
theorem dX1_findBun_17 : decode YX1_findBun.2.1 17 = .ok (.iload_n 2, 1) := by decide +kernel
theorem dX1_findBun_18 : decode YX1_findBun.2.1 18 = .ok (.invokevirtual 126, 3) := by decide +kernel
theorem dX1_findBun_21 : decode YX1_findBun.2.1 21 = .ok (.ifCond .le 40, 3) := by decide +kernel
theorem dX1_findBun_24 : decode YX1_findBun.2.1 24 = .ok (.iload_n 2, 1) := by decide +kernel
theorem dX1_findBun_25 : decode YX1_findBun.2.1 25 = .ok (.invokestatic 66, 3) := by decide +kernel
theorem dX1_findBun_28 : decode YX1_findBun.2.1 28 = .ok (.ifCond .eq 33, 3) := by decide +kernel
theorem dX1_findBun_31 : decode YX1_findBun.2.1 31 = .ok (.aload_n 0, 1) := by decide +kernel
theorem dX1_findBun_32 : decode YX1_findBun.2.1 32 = .ok (.getfield 30, 3) := by decide +kernel
theorem dX1_findBun_35 : decode YX1_findBun.2.1 35 = .ok (.iload_n 2, 1) := by decide +kernel
theorem dX1_findBun_36 : decode YX1_findBun.2.1 36 = .ok (.dup2, 1) := by decide +kernel
theorem dX1_findBun_37 : decode YX1_findBun.2.1 37 = .ok (.iaload, 1) := by decide +kernel
theorem dX1_findBun_38 : decode YX1_findBun.2.1 38 = .ok (.iconst 1, 1) := by decide +kernel
theorem dX1_findBun_39 : decode YX1_findBun.2.1 39 = .ok (.isub, 1) := by decide +kernel
theorem dX1_findBun_40 : decode YX1_findBun.2.1 40 = .ok (.iastore, 1) := by decide +kernel
theorem dX1_findBun_41 : decode YX1_findBun.2.1 41 = .ok (.aload_n 0, 1) := by decide +kernel
theorem dX1_findBun_42 : decode YX1_findBun.2.1 42 = .ok (.getfield 15, 3) := by decide +kernel
theorem dX1_findBun_45 : decode YX1_findBun.2.1 45 = .ok (.iload_n 1, 1) := by decide +kernel
theorem dX1_findBun_46 : decode YX1_findBun.2.1 46 = .ok (.dup2, 1) := by decide +kernel
theorem dX1_findBun_47 : decode YX1_findBun.2.1 47 = .ok (.iaload, 1) := by decide +kernel
theorem dX1_findBun_48 : decode YX1_findBun.2.1 48 = .ok (.iconst 1, 1) := by decide +kernel
theorem dX1_findBun_49 : decode YX1_findBun.2.1 49 = .ok (.iadd, 1) := by decide +kernel
theorem dX1_findBun_50 : decode YX1_findBun.2.1 50 = .ok (.iastore, 1) := by decide +kernel
theorem dX1_findBun_51 : decode YX1_findBun.2.1 51 = .ok (.aload_n 0, 1) := by decide +kernel
theorem dX1_findBun_52 : decode YX1_findBun.2.1 52 = .ok (.dup, 1) := by decide +kernel
theorem dX1_findBun_53 : decode YX1_findBun.2.1 53 = .ok (.getfield 49, 3) := by decide +kernel
theorem dX1_findBun_56 : decode YX1_findBun.2.1 56 = .ok (.iconst 1, 1) := by decide +kernel
theorem dX1_findBun_57 : decode YX1_findBun.2.1 57 = .ok (.iadd, 1) := by decide +kernel
theorem dX1_findBun_58 : decode YX1_findBun.2.1 58 = .ok (.putfield 49, 3) := by decide +kernel
theorem dX1_findBun_61 : decode YX1_findBun.2.1 61 = .ok (.return_, 1) := by decide +kernel
theorem dX1_firstOfRings_0 : decode YX1_firstOfRings.2.1 0 = .ok (.iconst 0, 1) := by decide +kernel
theorem dX1_firstOfRings_1 : decode YX1_firstOfRings.2.1 1 = .ok (.istore_n 1, 1) := by decide +kernel
theorem dX1_firstOfRings_2 : decode YX1_firstOfRings.2.1 2 = .ok (.iconst 0, 1) := by decide +kernel
theorem dX1_firstOfRings_3 : decode YX1_firstOfRings.2.1 3 = .ok (.istore_n 2, 1) := by decide +kernel
theorem dX1_firstOfRings_4 : decode YX1_firstOfRings.2.1 4 = .ok (.iload_n 2, 1) := by decide +kernel
theorem dX1_firstOfRings_5 : decode YX1_firstOfRings.2.1 5 = .ok (.bipush 6, 2) := by decide +kernel
theorem dX1_firstOfRings_7 : decode YX1_firstOfRings.2.1 7 = .ok (.if_icmp .ge 20, 3) := by decide +kernel
theorem dX1_firstOfRings_10 : decode YX1_firstOfRings.2.1 10 = .ok (.iload_n 1, 1) := by decide +kernel
theorem dX1_firstOfRings_11 : decode YX1_firstOfRings.2.1 11 = .ok (.aload_n 0, 1) := by decide +kernel
theorem dX1_firstOfRings_12 : decode YX1_firstOfRings.2.1 12 = .ok (.iload_n 2, 1) := by decide +kernel
theorem dX1_firstOfRings_13 : decode YX1_firstOfRings.2.1 13 = .ok (.invokevirtual 76, 3) := by decide +kernel
theorem dX1_firstOfRings_16 : decode YX1_firstOfRings.2.1 16 = .ok (.invokestatic 79, 3) := by decide +kernel
theorem dX1_firstOfRings_19 : decode YX1_firstOfRings.2.1 19 = .ok (.ior, 1) := by decide +kernel
theorem dX1_firstOfRings_20 : decode YX1_firstOfRings.2.1 20 = .ok (.istore_n 1, 1) := by decide +kernel
theorem dX1_firstOfRings_21 : decode YX1_firstOfRings.2.1 21 = .ok (.iinc 2 1, 3) := by decide +kernel
theorem dX1_firstOfRings_24 : decode YX1_firstOfRings.2.1 24 = .ok (.goto (-20), 3) := by decide +kernel
theorem dX1_firstOfRings_27 : decode YX1_firstOfRings.2.1 27 = .ok (.iload_n 1, 1) := by decide +kernel
theorem dX1_firstOfRings_28 : decode YX1_firstOfRings.2.1 28 = .ok (.ireturn, 1) := by decide +kernel
theorem dX1_followedBy_0 : decode YX1_followedBy.2.1 0 = .ok (.iload_n 1, 1) := by decide +kernel
theorem dX1_followedBy_1 : decode YX1_followedBy.2.1 1 = .ok (.invokestatic 58, 3) := by decide +kernel
theorem dX1_followedBy_4 : decode YX1_followedBy.2.1 4 = .ok (.ifCond .eq 12, 3) := by decide +kernel
theorem dX1_followedBy_7 : decode YX1_followedBy.2.1 7 = .ok (.aload_n 0, 1) := by decide +kernel
theorem dX1_followedBy_8 : decode YX1_followedBy.2.1 8 = .ok (.getfield 18, 3) := by decide +kernel
theorem dX1_followedBy_11 : decode YX1_followedBy.2.1 11 = .ok (.iload_n 1, 1) := by decide +kernel
theorem dX1_followedBy_12 : decode YX1_followedBy.2.1 12 = .ok (.iaload, 1) := by decide +kernel
theorem dX1_followedBy_13 : decode YX1_followedBy.2.1 13 = .ok (.goto 4, 3) := by decide +kernel
theorem dX1_followedBy_16 : decode YX1_followedBy.2.1 16 = .ok (.iconst (-1), 1) := by decide +kernel
theorem dX1_followedBy_17 : decode YX1_followedBy.2.1 17 = .ok (.ireturn, 1) := by decide +kernel
theorem dX1_followersOf_0 : decode YX1_followersOf.2.1 0 = .ok (.iconst 0, 1) := by decide +kernel
theorem dX1_followersOf_1 : decode YX1_followersOf.2.1 1 = .ok (.istore_n 2, 1) := by decide +kernel
theorem dX1_followersOf_2 : decode YX1_followersOf.2.1 2 = .ok (.iconst 0, 1) := by decide +kernel
theorem dX1_followersOf_3 : decode YX1_followersOf.2.1 3 = .ok (.istore_n 3, 1) := by decide +kernel
theorem dX1_followersOf_4 : decode YX1_followersOf.2.1 4 = .ok (.iload_n 3, 1) := by decide +kernel
theorem dX1_followersOf_5 : decode YX1_followersOf.2.1 5 = .ok (.bipush 6, 2) := by decide +kernel
theorem dX1_followersOf_7 : decode YX1_followersOf.2.1 7 = .ok (.if_icmp .ge 25, 3) := by decide +kernel
theorem dX1_followersOf_10 : decode YX1_followersOf.2.1 10 = .ok (.aload_n 0, 1) := by decide +kernel
theorem dX1_followersOf_11 : decode YX1_followersOf.2.1 11 = .ok (.getfield 18, 3) := by decide +kernel
theorem dX1_followersOf_14 : decode YX1_followersOf.2.1 14 = .ok (.iload_n 3, 1) := by decide +kernel
theorem dX1_followersOf_15 : decode YX1_followersOf.2.1 15 = .ok (.iaload, 1) := by decide +kernel
theorem dX1_followersOf_16 : decode YX1_followersOf.2.1 16 = .ok (.iload_n 1, 1) := by decide +kernel
theorem dX1_followersOf_17 : decode YX1_followersOf.2.1 17 = .ok (.if_icmp .ne 9, 3) := by decide +kernel
theorem dX1_followersOf_20 : decode YX1_followersOf.2.1 20 = .ok (.iload_n 2, 1) := by decide +kernel
theorem dX1_followersOf_21 : decode YX1_followersOf.2.1 21 = .ok (.iconst 1, 1) := by decide +kernel
theorem dX1_followersOf_22 : decode YX1_followersOf.2.1 22 = .ok (.iload_n 3, 1) := by decide +kernel
theorem dX1_followersOf_23 : decode YX1_followersOf.2.1 23 = .ok (.ishl, 1) := by decide +kernel
theorem dX1_followersOf_24 : decode YX1_followersOf.2.1 24 = .ok (.ior, 1) := by decide +kernel
theorem dX1_followersOf_25 : decode YX1_followersOf.2.1 25 = .ok (.istore_n 2, 1) := by decide +kernel
theorem dX1_followersOf_26 : decode YX1_followersOf.2.1 26 = .ok (.iinc 3 1, 3) := by decide +kernel
theorem dX1_followersOf_29 : decode YX1_followersOf.2.1 29 = .ok (.goto (-25), 3) := by decide +kernel
theorem dX1_followersOf_32 : decode YX1_followersOf.2.1 32 = .ok (.iload_n 2, 1) := by decide +kernel
theorem dX1_followersOf_33 : decode YX1_followersOf.2.1 33 = .ok (.ireturn, 1) := by decide +kernel
theorem dX1_followsInstead_0 : decode YX1_followsInstead.2.1 0 = .ok (.iload_n 1, 1) := by decide +kernel
theorem dX1_followsInstead_1 : decode YX1_followsInstead.2.1 1 = .ok (.invokestatic 58, 3) := by decide +kernel
theorem dX1_followsInstead_4 : decode YX1_followsInstead.2.1 4 = .ok (.ifCond .eq 31, 3) := by decide +kernel
theorem dX1_followsInstead_7 : decode YX1_followsInstead.2.1 7 = .ok (.iload_n 2, 1) := by decide +kernel
theorem dX1_followsInstead_8 : decode YX1_followsInstead.2.1 8 = .ok (.invokestatic 58, 3) := by decide +kernel
theorem dX1_followsInstead_11 : decode YX1_followsInstead.2.1 11 = .ok (.ifCond .eq 24, 3) := by decide +kernel
theorem dX1_followsInstead_14 : decode YX1_followsInstead.2.1 14 = .ok (.aload_n 0, 1) := by decide +kernel
theorem dX1_followsInstead_15 : decode YX1_followsInstead.2.1 15 = .ok (.getfield 18, 3) := by decide +kernel
theorem dX1_followsInstead_18 : decode YX1_followsInstead.2.1 18 = .ok (.iload_n 1, 1) := by decide +kernel
theorem dX1_followsInstead_19 : decode YX1_followsInstead.2.1 19 = .ok (.iload_n 2, 1) := by decide +kernel
theorem dX1_followsInstead_20 : decode YX1_followsInstead.2.1 20 = .ok (.iastore, 1) := by decide +kernel
theorem dX1_followsInstead_21 : decode YX1_followsInstead.2.1 21 = .ok (.aload_n 0, 1) := by decide +kernel
theorem dX1_followsInstead_22 : decode YX1_followsInstead.2.1 22 = .ok (.getfield 21, 3) := by decide +kernel
theorem dX1_followsInstead_25 : decode YX1_followsInstead.2.1 25 = .ok (.iload_n 1, 1) := by decide +kernel
theorem dX1_followsInstead_26 : decode YX1_followsInstead.2.1 26 = .ok (.iload_n 3, 1) := by decide +kernel
theorem dX1_followsInstead_27 : decode YX1_followsInstead.2.1 27 = .ok (.iastore, 1) := by decide +kernel
theorem dX1_followsInstead_28 : decode YX1_followsInstead.2.1 28 = .ok (.aload_n 0, 1) := by decide +kernel
theorem dX1_followsInstead_29 : decode YX1_followsInstead.2.1 29 = .ok (.getfield 27, 3) := by decide +kernel
theorem dX1_followsInstead_32 : decode YX1_followsInstead.2.1 32 = .ok (.iload_n 1, 1) := by decide +kernel
theorem dX1_followsInstead_33 : decode YX1_followsInstead.2.1 33 = .ok (.iconst 0, 1) := by decide +kernel
theorem dX1_followsInstead_34 : decode YX1_followsInstead.2.1 34 = .ok (.iastore, 1) := by decide +kernel
theorem dX1_followsInstead_35 : decode YX1_followsInstead.2.1 35 = .ok (.return_, 1) := by decide +kernel
theorem dX1_goesTo_0 : decode YX1_goesTo.2.1 0 = .ok (.aload_n 0, 1) := by decide +kernel
theorem dX1_goesTo_1 : decode YX1_goesTo.2.1 1 = .ok (.iload_n 2, 1) := by decide +kernel
theorem dX1_goesTo_2 : decode YX1_goesTo.2.1 2 = .ok (.invokevirtual 69, 3) := by decide +kernel
theorem dX1_goesTo_5 : decode YX1_goesTo.2.1 5 = .ok (.iconst (-1), 1) := by decide +kernel
theorem dX1_goesTo_6 : decode YX1_goesTo.2.1 6 = .ok (.if_icmp .eq 5, 3) := by decide +kernel
theorem dX1_goesTo_9 : decode YX1_goesTo.2.1 9 = .ok (.iconst 1, 1) := by decide +kernel
theorem dX1_goesTo_10 : decode YX1_goesTo.2.1 10 = .ok (.ireturn, 1) := by decide +kernel
theorem dX1_goesTo_11 : decode YX1_goesTo.2.1 11 = .ok (.aload_n 0, 1) := by decide +kernel
theorem dX1_goesTo_12 : decode YX1_goesTo.2.1 12 = .ok (.iload_n 2, 1) := by decide +kernel
theorem dX1_goesTo_13 : decode YX1_goesTo.2.1 13 = .ok (.invokevirtual 73, 3) := by decide +kernel
theorem dX1_goesTo_16 : decode YX1_goesTo.2.1 16 = .ok (.istore 4, 2) := by decide +kernel
theorem dX1_goesTo_18 : decode YX1_goesTo.2.1 18 = .ok (.iload_n 2, 1) := by decide +kernel
theorem dX1_goesTo_19 : decode YX1_goesTo.2.1 19 = .ok (.invokestatic 58, 3) := by decide +kernel
theorem dX1_goesTo_22 : decode YX1_goesTo.2.1 22 = .ok (.ifCond .eq 10, 3) := by decide +kernel
theorem dX1_goesTo_25 : decode YX1_goesTo.2.1 25 = .ok (.iload 4, 2) := by decide +kernel
theorem dX1_goesTo_27 : decode YX1_goesTo.2.1 27 = .ok (.bipush 8, 2) := by decide +kernel
theorem dX1_goesTo_29 : decode YX1_goesTo.2.1 29 = .ok (.if_icmp .lt 5, 3) := by decide +kernel
theorem dX1_goesTo_32 : decode YX1_goesTo.2.1 32 = .ok (.iconst 2, 1) := by decide +kernel
theorem dX1_goesTo_33 : decode YX1_goesTo.2.1 33 = .ok (.ireturn, 1) := by decide +kernel
theorem dX1_goesTo_34 : decode YX1_goesTo.2.1 34 = .ok (.iload 4, 2) := by decide +kernel
theorem dX1_goesTo_36 : decode YX1_goesTo.2.1 36 = .ok (.ifCond .le 20, 3) := by decide +kernel
theorem dX1_goesTo_39 : decode YX1_goesTo.2.1 39 = .ok (.aload_n 0, 1) := by decide +kernel
theorem dX1_goesTo_40 : decode YX1_goesTo.2.1 40 = .ok (.getfield 24, 3) := by decide +kernel
theorem dX1_goesTo_43 : decode YX1_goesTo.2.1 43 = .ok (.iload_n 2, 1) := by decide +kernel
theorem dX1_goesTo_44 : decode YX1_goesTo.2.1 44 = .ok (.bipush 8, 2) := by decide +kernel
theorem dX1_goesTo_46 : decode YX1_goesTo.2.1 46 = .ok (.imul, 1) := by decide +kernel
theorem dX1_goesTo_47 : decode YX1_goesTo.2.1 47 = .ok (.iload 4, 2) := by decide +kernel
theorem dX1_goesTo_49 : decode YX1_goesTo.2.1 49 = .ok (.iadd, 1) := by decide +kernel
theorem dX1_goesTo_50 : decode YX1_goesTo.2.1 50 = .ok (.iconst 1, 1) := by decide +kernel
theorem dX1_goesTo_51 : decode YX1_goesTo.2.1 51 = .ok (.isub, 1) := by decide +kernel
theorem dX1_goesTo_52 : decode YX1_goesTo.2.1 52 = .ok (.iaload, 1) := by decide +kernel
theorem dX1_goesTo_53 : decode YX1_goesTo.2.1 53 = .ok (.goto 8, 3) := by decide +kernel
theorem dX1_goesTo_56 : decode YX1_goesTo.2.1 56 = .ok (.aload_n 0, 1) := by decide +kernel
theorem dX1_goesTo_57 : decode YX1_goesTo.2.1 57 = .ok (.iload_n 2, 1) := by decide +kernel
theorem dX1_goesTo_58 : decode YX1_goesTo.2.1 58 = .ok (.invokevirtual 88, 3) := by decide +kernel
theorem dX1_goesTo_61 : decode YX1_goesTo.2.1 61 = .ok (.istore 5, 2) := by decide +kernel
theorem dX1_goesTo_63 : decode YX1_goesTo.2.1 63 = .ok (.aload_n 1, 1) := by decide +kernel
theorem dX1_goesTo_64 : decode YX1_goesTo.2.1 64 = .ok (.iload 5, 2) := by decide +kernel
theorem dX1_goesTo_66 : decode YX1_goesTo.2.1 66 = .ok (.iload_n 3, 1) := by decide +kernel
theorem dX1_goesTo_67 : decode YX1_goesTo.2.1 67 = .ok (.invokevirtual 91, 3) := by decide +kernel
theorem dX1_goesTo_70 : decode YX1_goesTo.2.1 70 = .ok (.ifCond .ne 5, 3) := by decide +kernel
theorem dX1_goesTo_73 : decode YX1_goesTo.2.1 73 = .ok (.iconst 3, 1) := by decide +kernel
theorem dX1_goesTo_74 : decode YX1_goesTo.2.1 74 = .ok (.ireturn, 1) := by decide +kernel
theorem dX1_goesTo_75 : decode YX1_goesTo.2.1 75 = .ok (.aload_n 0, 1) := by decide +kernel
theorem dX1_goesTo_76 : decode YX1_goesTo.2.1 76 = .ok (.getfield 24, 3) := by decide +kernel
theorem dX1_goesTo_79 : decode YX1_goesTo.2.1 79 = .ok (.iload_n 2, 1) := by decide +kernel
theorem dX1_goesTo_80 : decode YX1_goesTo.2.1 80 = .ok (.bipush 8, 2) := by decide +kernel
theorem dX1_goesTo_82 : decode YX1_goesTo.2.1 82 = .ok (.imul, 1) := by decide +kernel
theorem dX1_goesTo_83 : decode YX1_goesTo.2.1 83 = .ok (.iload 4, 2) := by decide +kernel
theorem dX1_goesTo_85 : decode YX1_goesTo.2.1 85 = .ok (.iadd, 1) := by decide +kernel
theorem dX1_goesTo_86 : decode YX1_goesTo.2.1 86 = .ok (.iload_n 3, 1) := by decide +kernel
theorem dX1_goesTo_87 : decode YX1_goesTo.2.1 87 = .ok (.iastore, 1) := by decide +kernel
theorem dX1_goesTo_88 : decode YX1_goesTo.2.1 88 = .ok (.aload_n 0, 1) := by decide +kernel
theorem dX1_goesTo_89 : decode YX1_goesTo.2.1 89 = .ok (.getfield 27, 3) := by decide +kernel
theorem dX1_goesTo_92 : decode YX1_goesTo.2.1 92 = .ok (.iload_n 2, 1) := by decide +kernel
theorem dX1_goesTo_93 : decode YX1_goesTo.2.1 93 = .ok (.iload 4, 2) := by decide +kernel
theorem dX1_goesTo_95 : decode YX1_goesTo.2.1 95 = .ok (.iconst 1, 1) := by decide +kernel
theorem dX1_goesTo_96 : decode YX1_goesTo.2.1 96 = .ok (.iadd, 1) := by decide +kernel
theorem dX1_goesTo_97 : decode YX1_goesTo.2.1 97 = .ok (.iastore, 1) := by decide +kernel
theorem dX1_goesTo_98 : decode YX1_goesTo.2.1 98 = .ok (.iconst 0, 1) := by decide +kernel
theorem dX1_goesTo_99 : decode YX1_goesTo.2.1 99 = .ok (.ireturn, 1) := by decide +kernel
theorem dX1_isIdle_0 : decode YX1_isIdle.2.1 0 = .ok (.aload_n 0, 1) := by decide +kernel
theorem dX1_isIdle_1 : decode YX1_isIdle.2.1 1 = .ok (.iload_n 1, 1) := by decide +kernel
theorem dX1_isIdle_2 : decode YX1_isIdle.2.1 2 = .ok (.invokevirtual 69, 3) := by decide +kernel
theorem dX1_isIdle_5 : decode YX1_isIdle.2.1 5 = .ok (.iconst (-1), 1) := by decide +kernel
theorem dX1_isIdle_6 : decode YX1_isIdle.2.1 6 = .ok (.if_icmp .ne 15, 3) := by decide +kernel
theorem dX1_isIdle_9 : decode YX1_isIdle.2.1 9 = .ok (.aload_n 0, 1) := by decide +kernel
theorem dX1_isIdle_10 : decode YX1_isIdle.2.1 10 = .ok (.iload_n 1, 1) := by decide +kernel
theorem dX1_isIdle_11 : decode YX1_isIdle.2.1 11 = .ok (.invokevirtual 73, 3) := by decide +kernel
theorem dX1_isIdle_14 : decode YX1_isIdle.2.1 14 = .ok (.ifCond .ne 7, 3) := by decide +kernel
theorem dX1_isIdle_17 : decode YX1_isIdle.2.1 17 = .ok (.iconst 1, 1) := by decide +kernel
theorem dX1_isIdle_18 : decode YX1_isIdle.2.1 18 = .ok (.goto 4, 3) := by decide +kernel
theorem dX1_isIdle_21 : decode YX1_isIdle.2.1 21 = .ok (.iconst 0, 1) := by decide +kernel
theorem dX1_isIdle_22 : decode YX1_isIdle.2.1 22 = .ok (.ireturn, 1) := by decide +kernel
theorem dX1_leavesOff_0 : decode YX1_leavesOff.2.1 0 = .ok (.iload_n 1, 1) := by decide +kernel
theorem dX1_leavesOff_1 : decode YX1_leavesOff.2.1 1 = .ok (.invokestatic 58, 3) := by decide +kernel
theorem dX1_leavesOff_4 : decode YX1_leavesOff.2.1 4 = .ok (.ifCond .eq 12, 3) := by decide +kernel
theorem dX1_leavesOff_7 : decode YX1_leavesOff.2.1 7 = .ok (.aload_n 0, 1) := by decide +kernel
theorem dX1_leavesOff_8 : decode YX1_leavesOff.2.1 8 = .ok (.iload_n 1, 1) := by decide +kernel
theorem dX1_leavesOff_9 : decode YX1_leavesOff.2.1 9 = .ok (.invokevirtual 69, 3) := by decide +kernel
theorem dX1_leavesOff_12 : decode YX1_leavesOff.2.1 12 = .ok (.iconst (-1), 1) := by decide +kernel
theorem dX1_leavesOff_13 : decode YX1_leavesOff.2.1 13 = .ok (.if_icmp .ne 5, 3) := by decide +kernel
theorem dX1_leavesOff_16 : decode YX1_leavesOff.2.1 16 = .ok (.iconst 1, 1) := by decide +kernel
theorem dX1_leavesOff_17 : decode YX1_leavesOff.2.1 17 = .ok (.ireturn, 1) := by decide +kernel
theorem dX1_leavesOff_18 : decode YX1_leavesOff.2.1 18 = .ok (.aload_n 0, 1) := by decide +kernel
theorem dX1_leavesOff_19 : decode YX1_leavesOff.2.1 19 = .ok (.getfield 18, 3) := by decide +kernel
theorem dX1_leavesOff_22 : decode YX1_leavesOff.2.1 22 = .ok (.iload_n 1, 1) := by decide +kernel
theorem dX1_leavesOff_23 : decode YX1_leavesOff.2.1 23 = .ok (.iconst (-1), 1) := by decide +kernel
theorem dX1_leavesOff_24 : decode YX1_leavesOff.2.1 24 = .ok (.iastore, 1) := by decide +kernel
theorem dX1_leavesOff_25 : decode YX1_leavesOff.2.1 25 = .ok (.aload_n 0, 1) := by decide +kernel
theorem dX1_leavesOff_26 : decode YX1_leavesOff.2.1 26 = .ok (.getfield 21, 3) := by decide +kernel
theorem dX1_leavesOff_29 : decode YX1_leavesOff.2.1 29 = .ok (.iload_n 1, 1) := by decide +kernel
theorem dX1_leavesOff_30 : decode YX1_leavesOff.2.1 30 = .ok (.iconst (-1), 1) := by decide +kernel
theorem dX1_leavesOff_31 : decode YX1_leavesOff.2.1 31 = .ok (.iastore, 1) := by decide +kernel
theorem dX1_leavesOff_32 : decode YX1_leavesOff.2.1 32 = .ok (.iconst 0, 1) := by decide +kernel
theorem dX1_leavesOff_33 : decode YX1_leavesOff.2.1 33 = .ok (.ireturn, 1) := by decide +kernel
theorem dX1_mayBe_0 : decode YX1_mayBe.2.1 0 = .ok (.iload_n 0, 1) := by decide +kernel
theorem dX1_mayBe_1 : decode YX1_mayBe.2.1 1 = .ok (.ifCond .lt 13, 3) := by decide +kernel
theorem dX1_mayBe_4 : decode YX1_mayBe.2.1 4 = .ok (.iload_n 0, 1) := by decide +kernel
theorem dX1_mayBe_5 : decode YX1_mayBe.2.1 5 = .ok (.bipush 6, 2) := by decide +kernel
theorem dX1_mayBe_7 : decode YX1_mayBe.2.1 7 = .ok (.if_icmp .ge 7, 3) := by decide +kernel
theorem dX1_mayBe_10 : decode YX1_mayBe.2.1 10 = .ok (.iconst 1, 1) := by decide +kernel
theorem dX1_mayBe_11 : decode YX1_mayBe.2.1 11 = .ok (.goto 4, 3) := by decide +kernel
theorem dX1_mayBe_14 : decode YX1_mayBe.2.1 14 = .ok (.iconst 0, 1) := by decide +kernel
theorem dX1_mayBe_15 : decode YX1_mayBe.2.1 15 = .ok (.ireturn, 1) := by decide +kernel
theorem dX1_mayBeCorner_0 : decode YX1_mayBeCorner.2.1 0 = .ok (.iload_n 0, 1) := by decide +kernel
theorem dX1_mayBeCorner_1 : decode YX1_mayBeCorner.2.1 1 = .ok (.ifCond .lt 13, 3) := by decide +kernel
theorem dX1_mayBeCorner_4 : decode YX1_mayBeCorner.2.1 4 = .ok (.iload_n 0, 1) := by decide +kernel
theorem dX1_mayBeCorner_5 : decode YX1_mayBeCorner.2.1 5 = .ok (.bipush 8, 2) := by decide +kernel
theorem dX1_mayBeCorner_7 : decode YX1_mayBeCorner.2.1 7 = .ok (.if_icmp .ge 7, 3) := by decide +kernel
theorem dX1_mayBeCorner_10 : decode YX1_mayBeCorner.2.1 10 = .ok (.iconst 1, 1) := by decide +kernel
theorem dX1_mayBeCorner_11 : decode YX1_mayBeCorner.2.1 11 = .ok (.goto 4, 3) := by decide +kernel
theorem dX1_mayBeCorner_14 : decode YX1_mayBeCorner.2.1 14 = .ok (.iconst 0, 1) := by decide +kernel
theorem dX1_mayBeCorner_15 : decode YX1_mayBeCorner.2.1 15 = .ok (.ireturn, 1) := by decide +kernel
theorem dX1_minuteNow_0 : decode YX1_minuteNow.2.1 0 = .ok (.aload_n 0, 1) := by decide +kernel
theorem dX1_minuteNow_1 : decode YX1_minuteNow.2.1 1 = .ok (.getfield 45, 3) := by decide +kernel
theorem dX1_minuteNow_4 : decode YX1_minuteNow.2.1 4 = .ok (.ireturn, 1) := by decide +kernel
theorem dX1_minutesLeft_0 : decode YX1_minutesLeft.2.1 0 = .ok (.sipush 400, 3) := by decide +kernel
theorem dX1_minutesLeft_3 : decode YX1_minutesLeft.2.1 3 = .ok (.aload_n 0, 1) := by decide +kernel
theorem dX1_minutesLeft_4 : decode YX1_minutesLeft.2.1 4 = .ok (.getfield 45, 3) := by decide +kernel
theorem dX1_minutesLeft_7 : decode YX1_minutesLeft.2.1 7 = .ok (.isub, 1) := by decide +kernel
theorem dX1_minutesLeft_8 : decode YX1_minutesLeft.2.1 8 = .ok (.ireturn, 1) := by decide +kernel
theorem dX1_move_0 : decode YX1_move.2.1 0 = .ok (.iload_n 1, 1) := by decide +kernel
theorem dX1_move_1 : decode YX1_move.2.1 1 = .ok (.bipush 6, 2) := by decide +kernel
theorem dX1_move_3 : decode YX1_move.2.1 3 = .ok (.imul, 1) := by decide +kernel
theorem dX1_move_4 : decode YX1_move.2.1 4 = .ok (.istore_n 3, 1) := by decide +kernel
theorem dX1_move_5 : decode YX1_move.2.1 5 = .ok (.aload_n 0, 1) := by decide +kernel
theorem dX1_move_6 : decode YX1_move.2.1 6 = .ok (.getfield 9, 3) := by decide +kernel
theorem dX1_move_9 : decode YX1_move.2.1 9 = .ok (.iload_n 3, 1) := by decide +kernel
theorem dX1_move_10 : decode YX1_move.2.1 10 = .ok (.iaload, 1) := by decide +kernel
theorem dX1_move_11 : decode YX1_move.2.1 11 = .ok (.iload_n 2, 1) := by decide +kernel
theorem dX1_move_12 : decode YX1_move.2.1 12 = .ok (.if_icmp .eq 7, 3) := by decide +kernel
theorem dX1_move_15 : decode YX1_move.2.1 15 = .ok (.iconst 1, 1) := by decide +kernel
theorem dX1_move_16 : decode YX1_move.2.1 16 = .ok (.goto 4, 3) := by decide +kernel
theorem dX1_move_19 : decode YX1_move.2.1 19 = .ok (.iconst 0, 1) := by decide +kernel
theorem dX1_move_20 : decode YX1_move.2.1 20 = .ok (.istore 4, 2) := by decide +kernel
theorem dX1_move_22 : decode YX1_move.2.1 22 = .ok (.iconst 5, 1) := by decide +kernel
theorem dX1_move_23 : decode YX1_move.2.1 23 = .ok (.istore 5, 2) := by decide +kernel
theorem dX1_move_25 : decode YX1_move.2.1 25 = .ok (.iload 5, 2) := by decide +kernel
theorem dX1_move_27 : decode YX1_move.2.1 27 = .ok (.ifCond .le 29, 3) := by decide +kernel
theorem dX1_move_30 : decode YX1_move.2.1 30 = .ok (.aload_n 0, 1) := by decide +kernel
theorem dX1_move_31 : decode YX1_move.2.1 31 = .ok (.getfield 9, 3) := by decide +kernel
theorem dX1_move_34 : decode YX1_move.2.1 34 = .ok (.iload_n 3, 1) := by decide +kernel
theorem dX1_move_35 : decode YX1_move.2.1 35 = .ok (.iload 5, 2) := by decide +kernel
theorem dX1_move_37 : decode YX1_move.2.1 37 = .ok (.iadd, 1) := by decide +kernel
theorem dX1_move_38 : decode YX1_move.2.1 38 = .ok (.aload_n 0, 1) := by decide +kernel
theorem dX1_move_39 : decode YX1_move.2.1 39 = .ok (.getfield 9, 3) := by decide +kernel
theorem dX1_move_42 : decode YX1_move.2.1 42 = .ok (.iload_n 3, 1) := by decide +kernel
theorem dX1_move_43 : decode YX1_move.2.1 43 = .ok (.iload 5, 2) := by decide +kernel
theorem dX1_move_45 : decode YX1_move.2.1 45 = .ok (.iadd, 1) := by decide +kernel
theorem dX1_move_46 : decode YX1_move.2.1 46 = .ok (.iconst 1, 1) := by decide +kernel
theorem dX1_move_47 : decode YX1_move.2.1 47 = .ok (.isub, 1) := by decide +kernel
theorem dX1_move_48 : decode YX1_move.2.1 48 = .ok (.iaload, 1) := by decide +kernel
theorem dX1_move_49 : decode YX1_move.2.1 49 = .ok (.iastore, 1) := by decide +kernel
theorem dX1_move_50 : decode YX1_move.2.1 50 = .ok (.iinc 5 (-1), 3) := by decide +kernel
theorem dX1_move_53 : decode YX1_move.2.1 53 = .ok (.goto (-28), 3) := by decide +kernel
theorem dX1_move_56 : decode YX1_move.2.1 56 = .ok (.aload_n 0, 1) := by decide +kernel
theorem dX1_move_57 : decode YX1_move.2.1 57 = .ok (.getfield 9, 3) := by decide +kernel
theorem dX1_move_60 : decode YX1_move.2.1 60 = .ok (.iload_n 3, 1) := by decide +kernel
theorem dX1_move_61 : decode YX1_move.2.1 61 = .ok (.iload_n 2, 1) := by decide +kernel
theorem dX1_move_62 : decode YX1_move.2.1 62 = .ok (.iastore, 1) := by decide +kernel
theorem dX1_move_63 : decode YX1_move.2.1 63 = .ok (.iload 4, 2) := by decide +kernel
theorem dX1_move_65 : decode YX1_move.2.1 65 = .ok (.ifCond .eq 30, 3) := by decide +kernel
theorem dX1_move_68 : decode YX1_move.2.1 68 = .ok (.iload_n 2, 1) := by decide +kernel
theorem dX1_move_69 : decode YX1_move.2.1 69 = .ok (.invokestatic 66, 3) := by decide +kernel
theorem dX1_move_72 : decode YX1_move.2.1 72 = .ok (.ifCond .eq 23, 3) := by decide +kernel
theorem dX1_move_75 : decode YX1_move.2.1 75 = .ok (.aload_n 0, 1) := by decide +kernel
theorem dX1_move_76 : decode YX1_move.2.1 76 = .ok (.getfield 33, 3) := by decide +kernel
theorem dX1_move_79 : decode YX1_move.2.1 79 = .ok (.iload_n 2, 1) := by decide +kernel
theorem dX1_move_80 : decode YX1_move.2.1 80 = .ok (.sipush 9999, 3) := by decide +kernel
theorem dX1_move_83 : decode YX1_move.2.1 83 = .ok (.aload_n 0, 1) := by decide +kernel
theorem dX1_move_84 : decode YX1_move.2.1 84 = .ok (.getfield 33, 3) := by decide +kernel
theorem dX1_move_87 : decode YX1_move.2.1 87 = .ok (.iload_n 2, 1) := by decide +kernel
theorem dX1_move_88 : decode YX1_move.2.1 88 = .ok (.iaload, 1) := by decide +kernel
theorem dX1_move_89 : decode YX1_move.2.1 89 = .ok (.iconst 1, 1) := by decide +kernel
theorem dX1_move_90 : decode YX1_move.2.1 90 = .ok (.iadd, 1) := by decide +kernel
theorem dX1_move_91 : decode YX1_move.2.1 91 = .ok (.invokestatic 121, 3) := by decide +kernel
theorem dX1_move_94 : decode YX1_move.2.1 94 = .ok (.iastore, 1) := by decide +kernel
theorem dX1_move_95 : decode YX1_move.2.1 95 = .ok (.return_, 1) := by decide +kernel
theorem dX1_nextPlace_0 : decode YX1_nextPlace.2.1 0 = .ok (.aload_n 0, 1) := by decide +kernel
theorem dX1_nextPlace_1 : decode YX1_nextPlace.2.1 1 = .ok (.getfield 27, 3) := by decide +kernel
theorem dX1_nextPlace_4 : decode YX1_nextPlace.2.1 4 = .ok (.iload_n 2, 1) := by decide +kernel
theorem dX1_nextPlace_5 : decode YX1_nextPlace.2.1 5 = .ok (.iaload, 1) := by decide +kernel
theorem dX1_nextPlace_6 : decode YX1_nextPlace.2.1 6 = .ok (.ifCond .le 13, 3) := by decide +kernel
theorem dX1_nextPlace_9 : decode YX1_nextPlace.2.1 9 = .ok (.aload_n 0, 1) := by decide +kernel
theorem dX1_nextPlace_10 : decode YX1_nextPlace.2.1 10 = .ok (.getfield 24, 3) := by decide +kernel
theorem dX1_nextPlace_13 : decode YX1_nextPlace.2.1 13 = .ok (.iload_n 2, 1) := by decide +kernel
theorem dX1_nextPlace_14 : decode YX1_nextPlace.2.1 14 = .ok (.bipush 8, 2) := by decide +kernel
theorem dX1_nextPlace_16 : decode YX1_nextPlace.2.1 16 = .ok (.imul, 1) := by decide +kernel
theorem dX1_nextPlace_17 : decode YX1_nextPlace.2.1 17 = .ok (.iaload, 1) := by decide +kernel
theorem dX1_nextPlace_18 : decode YX1_nextPlace.2.1 18 = .ok (.ireturn, 1) := by decide +kernel
theorem dX1_nextPlace_19 : decode YX1_nextPlace.2.1 19 = .ok (.aload_n 0, 1) := by decide +kernel
theorem dX1_nextPlace_20 : decode YX1_nextPlace.2.1 20 = .ok (.iload_n 2, 1) := by decide +kernel
theorem dX1_nextPlace_21 : decode YX1_nextPlace.2.1 21 = .ok (.invokevirtual 88, 3) := by decide +kernel
theorem dX1_nextPlace_24 : decode YX1_nextPlace.2.1 24 = .ok (.istore_n 3, 1) := by decide +kernel
theorem dX1_nextPlace_25 : decode YX1_nextPlace.2.1 25 = .ok (.aload_n 0, 1) := by decide +kernel
theorem dX1_nextPlace_26 : decode YX1_nextPlace.2.1 26 = .ok (.getfield 18, 3) := by decide +kernel
theorem dX1_nextPlace_29 : decode YX1_nextPlace.2.1 29 = .ok (.iload_n 2, 1) := by decide +kernel
theorem dX1_nextPlace_30 : decode YX1_nextPlace.2.1 30 = .ok (.iaload, 1) := by decide +kernel
theorem dX1_nextPlace_31 : decode YX1_nextPlace.2.1 31 = .ok (.istore 4, 2) := by decide +kernel
theorem dX1_nextPlace_33 : decode YX1_nextPlace.2.1 33 = .ok (.iload 4, 2) := by decide +kernel
theorem dX1_nextPlace_35 : decode YX1_nextPlace.2.1 35 = .ok (.iconst (-1), 1) := by decide +kernel
theorem dX1_nextPlace_36 : decode YX1_nextPlace.2.1 36 = .ok (.if_icmp .ne 7, 3) := by decide +kernel
theorem dX1_nextPlace_39 : decode YX1_nextPlace.2.1 39 = .ok (.iload_n 3, 1) := by decide +kernel
theorem dX1_nextPlace_40 : decode YX1_nextPlace.2.1 40 = .ok (.goto 22, 3) := by decide +kernel
theorem dX1_nextPlace_43 : decode YX1_nextPlace.2.1 43 = .ok (.aload_n 1, 1) := by decide +kernel
theorem dX1_nextPlace_44 : decode YX1_nextPlace.2.1 44 = .ok (.iload_n 3, 1) := by decide +kernel
theorem dX1_nextPlace_45 : decode YX1_nextPlace.2.1 45 = .ok (.aload_n 0, 1) := by decide +kernel
theorem dX1_nextPlace_46 : decode YX1_nextPlace.2.1 46 = .ok (.iload 4, 2) := by decide +kernel
theorem dX1_nextPlace_48 : decode YX1_nextPlace.2.1 48 = .ok (.aload_n 0, 1) := by decide +kernel
theorem dX1_nextPlace_49 : decode YX1_nextPlace.2.1 49 = .ok (.getfield 21, 3) := by decide +kernel
theorem dX1_nextPlace_52 : decode YX1_nextPlace.2.1 52 = .ok (.iload_n 2, 1) := by decide +kernel
theorem dX1_nextPlace_53 : decode YX1_nextPlace.2.1 53 = .ok (.iaload, 1) := by decide +kernel
theorem dX1_nextPlace_54 : decode YX1_nextPlace.2.1 54 = .ok (.iconst 1, 1) := by decide +kernel
theorem dX1_nextPlace_55 : decode YX1_nextPlace.2.1 55 = .ok (.isub, 1) := by decide +kernel
theorem dX1_nextPlace_56 : decode YX1_nextPlace.2.1 56 = .ok (.invokevirtual 62, 3) := by decide +kernel
theorem dX1_nextPlace_59 : decode YX1_nextPlace.2.1 59 = .ok (.invokevirtual 118, 3) := by decide +kernel
theorem dX1_nextPlace_62 : decode YX1_nextPlace.2.1 62 = .ok (.ireturn, 1) := by decide +kernel
theorem dX1_passMinutes_0 : decode YX1_passMinutes.2.1 0 = .ok (.iconst 0, 1) := by decide +kernel
theorem dX1_passMinutes_1 : decode YX1_passMinutes.2.1 1 = .ok (.istore_n 3, 1) := by decide +kernel
theorem dX1_passMinutes_2 : decode YX1_passMinutes.2.1 2 = .ok (.iload_n 3, 1) := by decide +kernel
theorem dX1_passMinutes_3 : decode YX1_passMinutes.2.1 3 = .ok (.iload_n 2, 1) := by decide +kernel
theorem dX1_passMinutes_4 : decode YX1_passMinutes.2.1 4 = .ok (.if_icmp .ge 106, 3) := by decide +kernel
theorem dX1_passMinutes_7 : decode YX1_passMinutes.2.1 7 = .ok (.iconst 0, 1) := by decide +kernel
theorem dX1_passMinutes_8 : decode YX1_passMinutes.2.1 8 = .ok (.istore 4, 2) := by decide +kernel
theorem dX1_passMinutes_10 : decode YX1_passMinutes.2.1 10 = .ok (.iload 4, 2) := by decide +kernel
theorem dX1_passMinutes_12 : decode YX1_passMinutes.2.1 12 = .ok (.bipush 6, 2) := by decide +kernel
theorem dX1_passMinutes_14 : decode YX1_passMinutes.2.1 14 = .ok (.if_icmp .ge 23, 3) := by decide +kernel
theorem dX1_passMinutes_17 : decode YX1_passMinutes.2.1 17 = .ok (.aload_n 0, 1) := by decide +kernel
theorem dX1_passMinutes_18 : decode YX1_passMinutes.2.1 18 = .ok (.getfield 36, 3) := by decide +kernel
theorem dX1_passMinutes_21 : decode YX1_passMinutes.2.1 21 = .ok (.iload 4, 2) := by decide +kernel
theorem dX1_passMinutes_23 : decode YX1_passMinutes.2.1 23 = .ok (.aload_n 0, 1) := by decide +kernel
theorem dX1_passMinutes_24 : decode YX1_passMinutes.2.1 24 = .ok (.aload_n 1, 1) := by decide +kernel
theorem dX1_passMinutes_25 : decode YX1_passMinutes.2.1 25 = .ok (.iload 4, 2) := by decide +kernel
theorem dX1_passMinutes_27 : decode YX1_passMinutes.2.1 27 = .ok (.invokevirtual 103, 3) := by decide +kernel
theorem dX1_passMinutes_30 : decode YX1_passMinutes.2.1 30 = .ok (.iastore, 1) := by decide +kernel
theorem dX1_passMinutes_31 : decode YX1_passMinutes.2.1 31 = .ok (.iinc 4 1, 3) := by decide +kernel
theorem dX1_passMinutes_34 : decode YX1_passMinutes.2.1 34 = .ok (.goto (-24), 3) := by decide +kernel
theorem dX1_passMinutes_37 : decode YX1_passMinutes.2.1 37 = .ok (.iconst 0, 1) := by decide +kernel
theorem dX1_passMinutes_38 : decode YX1_passMinutes.2.1 38 = .ok (.istore 4, 2) := by decide +kernel
theorem dX1_passMinutes_40 : decode YX1_passMinutes.2.1 40 = .ok (.iload 4, 2) := by decide +kernel
theorem dX1_passMinutes_42 : decode YX1_passMinutes.2.1 42 = .ok (.bipush 6, 2) := by decide +kernel
theorem dX1_passMinutes_44 : decode YX1_passMinutes.2.1 44 = .ok (.if_icmp .ge 28, 3) := by decide +kernel
theorem dX1_passMinutes_47 : decode YX1_passMinutes.2.1 47 = .ok (.aload_n 0, 1) := by decide +kernel
theorem dX1_passMinutes_48 : decode YX1_passMinutes.2.1 48 = .ok (.iload 4, 2) := by decide +kernel
theorem dX1_passMinutes_50 : decode YX1_passMinutes.2.1 50 = .ok (.invokevirtual 107, 3) := by decide +kernel
theorem dX1_passMinutes_53 : decode YX1_passMinutes.2.1 53 = .ok (.aload_n 0, 1) := by decide +kernel
theorem dX1_passMinutes_54 : decode YX1_passMinutes.2.1 54 = .ok (.iload 4, 2) := by decide +kernel
theorem dX1_passMinutes_56 : decode YX1_passMinutes.2.1 56 = .ok (.aload_n 0, 1) := by decide +kernel
theorem dX1_passMinutes_57 : decode YX1_passMinutes.2.1 57 = .ok (.getfield 36, 3) := by decide +kernel
theorem dX1_passMinutes_60 : decode YX1_passMinutes.2.1 60 = .ok (.iload 4, 2) := by decide +kernel
theorem dX1_passMinutes_62 : decode YX1_passMinutes.2.1 62 = .ok (.iaload, 1) := by decide +kernel
theorem dX1_passMinutes_63 : decode YX1_passMinutes.2.1 63 = .ok (.invokevirtual 111, 3) := by decide +kernel
theorem dX1_passMinutes_66 : decode YX1_passMinutes.2.1 66 = .ok (.iinc 4 1, 3) := by decide +kernel
theorem dX1_passMinutes_69 : decode YX1_passMinutes.2.1 69 = .ok (.goto (-29), 3) := by decide +kernel
theorem dX1_passMinutes_72 : decode YX1_passMinutes.2.1 72 = .ok (.iconst 0, 1) := by decide +kernel
theorem dX1_passMinutes_73 : decode YX1_passMinutes.2.1 73 = .ok (.istore 4, 2) := by decide +kernel
theorem dX1_passMinutes_75 : decode YX1_passMinutes.2.1 75 = .ok (.iload 4, 2) := by decide +kernel
theorem dX1_passMinutes_77 : decode YX1_passMinutes.2.1 77 = .ok (.bipush 6, 2) := by decide +kernel
theorem dX1_passMinutes_79 : decode YX1_passMinutes.2.1 79 = .ok (.if_icmp .ge 15, 3) := by decide +kernel
theorem dX1_passMinutes_82 : decode YX1_passMinutes.2.1 82 = .ok (.aload_n 0, 1) := by decide +kernel
theorem dX1_passMinutes_83 : decode YX1_passMinutes.2.1 83 = .ok (.iload 4, 2) := by decide +kernel
theorem dX1_passMinutes_85 : decode YX1_passMinutes.2.1 85 = .ok (.invokevirtual 115, 3) := by decide +kernel
theorem dX1_passMinutes_88 : decode YX1_passMinutes.2.1 88 = .ok (.iinc 4 1, 3) := by decide +kernel
theorem dX1_passMinutes_91 : decode YX1_passMinutes.2.1 91 = .ok (.goto (-16), 3) := by decide +kernel
theorem dX1_passMinutes_94 : decode YX1_passMinutes.2.1 94 = .ok (.aload_n 0, 1) := by decide +kernel
theorem dX1_passMinutes_95 : decode YX1_passMinutes.2.1 95 = .ok (.dup, 1) := by decide +kernel
theorem dX1_passMinutes_96 : decode YX1_passMinutes.2.1 96 = .ok (.getfield 45, 3) := by decide +kernel
theorem dX1_passMinutes_99 : decode YX1_passMinutes.2.1 99 = .ok (.iconst 1, 1) := by decide +kernel
theorem dX1_passMinutes_100 : decode YX1_passMinutes.2.1 100 = .ok (.iadd, 1) := by decide +kernel
theorem dX1_passMinutes_101 : decode YX1_passMinutes.2.1 101 = .ok (.putfield 45, 3) := by decide +kernel
theorem dX1_passMinutes_104 : decode YX1_passMinutes.2.1 104 = .ok (.iinc 3 1, 3) := by decide +kernel
theorem dX1_passMinutes_107 : decode YX1_passMinutes.2.1 107 = .ok (.goto (-105), 3) := by decide +kernel
theorem dX1_passMinutes_110 : decode YX1_passMinutes.2.1 110 = .ok (.return_, 1) := by decide +kernel
theorem dX1_printsAt_0 : decode YX1_printsAt.2.1 0 = .ok (.iload_n 1, 1) := by decide +kernel
theorem dX1_printsAt_1 : decode YX1_printsAt.2.1 1 = .ok (.invokestatic 66, 3) := by decide +kernel
theorem dX1_printsAt_4 : decode YX1_printsAt.2.1 4 = .ok (.ifCond .eq 12, 3) := by decide +kernel
theorem dX1_printsAt_7 : decode YX1_printsAt.2.1 7 = .ok (.aload_n 0, 1) := by decide +kernel
theorem dX1_printsAt_8 : decode YX1_printsAt.2.1 8 = .ok (.getfield 33, 3) := by decide +kernel
theorem dX1_printsAt_11 : decode YX1_printsAt.2.1 11 = .ok (.iload_n 1, 1) := by decide +kernel
theorem dX1_printsAt_12 : decode YX1_printsAt.2.1 12 = .ok (.iaload, 1) := by decide +kernel
theorem dX1_printsAt_13 : decode YX1_printsAt.2.1 13 = .ok (.goto 4, 3) := by decide +kernel
theorem dX1_printsAt_16 : decode YX1_printsAt.2.1 16 = .ok (.iconst 0, 1) := by decide +kernel
theorem dX1_printsAt_17 : decode YX1_printsAt.2.1 17 = .ok (.ireturn, 1) := by decide +kernel
theorem dX1_ringOf_0 : decode YX1_ringOf.2.1 0 = .ok (.iconst 0, 1) := by decide +kernel
theorem dX1_ringOf_1 : decode YX1_ringOf.2.1 1 = .ok (.istore_n 2, 1) := by decide +kernel
theorem dX1_ringOf_2 : decode YX1_ringOf.2.1 2 = .ok (.iload_n 1, 1) := by decide +kernel
theorem dX1_ringOf_3 : decode YX1_ringOf.2.1 3 = .ok (.istore_n 3, 1) := by decide +kernel
theorem dX1_ringOf_4 : decode YX1_ringOf.2.1 4 = .ok (.iconst 0, 1) := by decide +kernel
theorem dX1_ringOf_5 : decode YX1_ringOf.2.1 5 = .ok (.istore 4, 2) := by decide +kernel
theorem dX1_ringOf_7 : decode YX1_ringOf.2.1 7 = .ok (.iload 4, 2) := by decide +kernel
theorem dX1_ringOf_9 : decode YX1_ringOf.2.1 9 = .ok (.bipush 6, 2) := by decide +kernel
theorem dX1_ringOf_11 : decode YX1_ringOf.2.1 11 = .ok (.if_icmp .ge 35, 3) := by decide +kernel
theorem dX1_ringOf_14 : decode YX1_ringOf.2.1 14 = .ok (.aload_n 0, 1) := by decide +kernel
theorem dX1_ringOf_15 : decode YX1_ringOf.2.1 15 = .ok (.iload_n 3, 1) := by decide +kernel
theorem dX1_ringOf_16 : decode YX1_ringOf.2.1 16 = .ok (.invokevirtual 69, 3) := by decide +kernel
theorem dX1_ringOf_19 : decode YX1_ringOf.2.1 19 = .ok (.istore_n 3, 1) := by decide +kernel
theorem dX1_ringOf_20 : decode YX1_ringOf.2.1 20 = .ok (.iload_n 3, 1) := by decide +kernel
theorem dX1_ringOf_21 : decode YX1_ringOf.2.1 21 = .ok (.iconst (-1), 1) := by decide +kernel
theorem dX1_ringOf_22 : decode YX1_ringOf.2.1 22 = .ok (.if_icmp .ne 5, 3) := by decide +kernel
theorem dX1_ringOf_25 : decode YX1_ringOf.2.1 25 = .ok (.iconst 0, 1) := by decide +kernel
theorem dX1_ringOf_26 : decode YX1_ringOf.2.1 26 = .ok (.ireturn, 1) := by decide +kernel
theorem dX1_ringOf_27 : decode YX1_ringOf.2.1 27 = .ok (.iload_n 2, 1) := by decide +kernel
theorem dX1_ringOf_28 : decode YX1_ringOf.2.1 28 = .ok (.iconst 1, 1) := by decide +kernel
theorem dX1_ringOf_29 : decode YX1_ringOf.2.1 29 = .ok (.iload_n 3, 1) := by decide +kernel
theorem dX1_ringOf_30 : decode YX1_ringOf.2.1 30 = .ok (.ishl, 1) := by decide +kernel
theorem dX1_ringOf_31 : decode YX1_ringOf.2.1 31 = .ok (.ior, 1) := by decide +kernel
theorem dX1_ringOf_32 : decode YX1_ringOf.2.1 32 = .ok (.istore_n 2, 1) := by decide +kernel
theorem dX1_ringOf_33 : decode YX1_ringOf.2.1 33 = .ok (.iload_n 3, 1) := by decide +kernel
theorem dX1_ringOf_34 : decode YX1_ringOf.2.1 34 = .ok (.iload_n 1, 1) := by decide +kernel
theorem dX1_ringOf_35 : decode YX1_ringOf.2.1 35 = .ok (.if_icmp .ne 5, 3) := by decide +kernel
theorem dX1_ringOf_38 : decode YX1_ringOf.2.1 38 = .ok (.iload_n 2, 1) := by decide +kernel
theorem dX1_ringOf_39 : decode YX1_ringOf.2.1 39 = .ok (.ireturn, 1) := by decide +kernel
theorem dX1_ringOf_40 : decode YX1_ringOf.2.1 40 = .ok (.iinc 4 1, 3) := by decide +kernel
theorem dX1_ringOf_43 : decode YX1_ringOf.2.1 43 = .ok (.goto (-36), 3) := by decide +kernel
theorem dX1_ringOf_46 : decode YX1_ringOf.2.1 46 = .ok (.iconst 0, 1) := by decide +kernel
theorem dX1_ringOf_47 : decode YX1_ringOf.2.1 47 = .ok (.ireturn, 1) := by decide +kernel
theorem dX1_shortenWay_0 : decode YX1_shortenWay.2.1 0 = .ok (.aload_n 0, 1) := by decide +kernel
theorem dX1_shortenWay_1 : decode YX1_shortenWay.2.1 1 = .ok (.getfield 27, 3) := by decide +kernel
theorem dX1_shortenWay_4 : decode YX1_shortenWay.2.1 4 = .ok (.iload_n 1, 1) := by decide +kernel
theorem dX1_shortenWay_5 : decode YX1_shortenWay.2.1 5 = .ok (.iaload, 1) := by decide +kernel
theorem dX1_shortenWay_6 : decode YX1_shortenWay.2.1 6 = .ok (.ifCond .le 60, 3) := by decide +kernel
theorem dX1_shortenWay_9 : decode YX1_shortenWay.2.1 9 = .ok (.iload_n 1, 1) := by decide +kernel
theorem dX1_shortenWay_10 : decode YX1_shortenWay.2.1 10 = .ok (.bipush 8, 2) := by decide +kernel
theorem dX1_shortenWay_12 : decode YX1_shortenWay.2.1 12 = .ok (.imul, 1) := by decide +kernel
theorem dX1_shortenWay_13 : decode YX1_shortenWay.2.1 13 = .ok (.istore_n 2, 1) := by decide +kernel
theorem dX1_shortenWay_14 : decode YX1_shortenWay.2.1 14 = .ok (.aload_n 0, 1) := by decide +kernel
theorem dX1_shortenWay_15 : decode YX1_shortenWay.2.1 15 = .ok (.getfield 27, 3) := by decide +kernel
theorem dX1_shortenWay_18 : decode YX1_shortenWay.2.1 18 = .ok (.iload_n 1, 1) := by decide +kernel
theorem dX1_shortenWay_19 : decode YX1_shortenWay.2.1 19 = .ok (.dup2, 1) := by decide +kernel
theorem dX1_shortenWay_20 : decode YX1_shortenWay.2.1 20 = .ok (.iaload, 1) := by decide +kernel
theorem dX1_shortenWay_21 : decode YX1_shortenWay.2.1 21 = .ok (.iconst 1, 1) := by decide +kernel
theorem dX1_shortenWay_22 : decode YX1_shortenWay.2.1 22 = .ok (.isub, 1) := by decide +kernel
theorem dX1_shortenWay_23 : decode YX1_shortenWay.2.1 23 = .ok (.iastore, 1) := by decide +kernel
theorem dX1_shortenWay_24 : decode YX1_shortenWay.2.1 24 = .ok (.iconst 0, 1) := by decide +kernel
theorem dX1_shortenWay_25 : decode YX1_shortenWay.2.1 25 = .ok (.istore_n 3, 1) := by decide +kernel
theorem dX1_shortenWay_26 : decode YX1_shortenWay.2.1 26 = .ok (.iload_n 3, 1) := by decide +kernel
theorem dX1_shortenWay_27 : decode YX1_shortenWay.2.1 27 = .ok (.aload_n 0, 1) := by decide +kernel
theorem dX1_shortenWay_28 : decode YX1_shortenWay.2.1 28 = .ok (.getfield 27, 3) := by decide +kernel
theorem dX1_shortenWay_31 : decode YX1_shortenWay.2.1 31 = .ok (.iload_n 1, 1) := by decide +kernel
theorem dX1_shortenWay_32 : decode YX1_shortenWay.2.1 32 = .ok (.iaload, 1) := by decide +kernel
theorem dX1_shortenWay_33 : decode YX1_shortenWay.2.1 33 = .ok (.if_icmp .ge 33, 3) := by decide +kernel
theorem dX1_shortenWay_36 : decode YX1_shortenWay.2.1 36 = .ok (.iload_n 3, 1) := by decide +kernel
theorem dX1_shortenWay_37 : decode YX1_shortenWay.2.1 37 = .ok (.bipush 7, 2) := by decide +kernel
theorem dX1_shortenWay_39 : decode YX1_shortenWay.2.1 39 = .ok (.if_icmp .ge 27, 3) := by decide +kernel
theorem dX1_shortenWay_42 : decode YX1_shortenWay.2.1 42 = .ok (.aload_n 0, 1) := by decide +kernel
theorem dX1_shortenWay_43 : decode YX1_shortenWay.2.1 43 = .ok (.getfield 24, 3) := by decide +kernel
theorem dX1_shortenWay_46 : decode YX1_shortenWay.2.1 46 = .ok (.iload_n 2, 1) := by decide +kernel
theorem dX1_shortenWay_47 : decode YX1_shortenWay.2.1 47 = .ok (.iload_n 3, 1) := by decide +kernel
theorem dX1_shortenWay_48 : decode YX1_shortenWay.2.1 48 = .ok (.iadd, 1) := by decide +kernel
theorem dX1_shortenWay_49 : decode YX1_shortenWay.2.1 49 = .ok (.aload_n 0, 1) := by decide +kernel
theorem dX1_shortenWay_50 : decode YX1_shortenWay.2.1 50 = .ok (.getfield 24, 3) := by decide +kernel
theorem dX1_shortenWay_53 : decode YX1_shortenWay.2.1 53 = .ok (.iload_n 2, 1) := by decide +kernel
theorem dX1_shortenWay_54 : decode YX1_shortenWay.2.1 54 = .ok (.iload_n 3, 1) := by decide +kernel
theorem dX1_shortenWay_55 : decode YX1_shortenWay.2.1 55 = .ok (.iadd, 1) := by decide +kernel
theorem dX1_shortenWay_56 : decode YX1_shortenWay.2.1 56 = .ok (.iconst 1, 1) := by decide +kernel
theorem dX1_shortenWay_57 : decode YX1_shortenWay.2.1 57 = .ok (.iadd, 1) := by decide +kernel
theorem dX1_shortenWay_58 : decode YX1_shortenWay.2.1 58 = .ok (.iaload, 1) := by decide +kernel
theorem dX1_shortenWay_59 : decode YX1_shortenWay.2.1 59 = .ok (.iastore, 1) := by decide +kernel
theorem dX1_shortenWay_60 : decode YX1_shortenWay.2.1 60 = .ok (.iinc 3 1, 3) := by decide +kernel
theorem dX1_shortenWay_63 : decode YX1_shortenWay.2.1 63 = .ok (.goto (-37), 3) := by decide +kernel
theorem dX1_shortenWay_66 : decode YX1_shortenWay.2.1 66 = .ok (.return_, 1) := by decide +kernel
theorem dX1_takesOn_0 : decode YX1_takesOn.2.1 0 = .ok (.aload_n 0, 1) := by decide +kernel
theorem dX1_takesOn_1 : decode YX1_takesOn.2.1 1 = .ok (.iload_n 2, 1) := by decide +kernel
theorem dX1_takesOn_2 : decode YX1_takesOn.2.1 2 = .ok (.invokevirtual 69, 3) := by decide +kernel
theorem dX1_takesOn_5 : decode YX1_takesOn.2.1 5 = .ok (.iconst (-1), 1) := by decide +kernel
theorem dX1_takesOn_6 : decode YX1_takesOn.2.1 6 = .ok (.if_icmp .eq 5, 3) := by decide +kernel
theorem dX1_takesOn_9 : decode YX1_takesOn.2.1 9 = .ok (.iconst 1, 1) := by decide +kernel
theorem dX1_takesOn_10 : decode YX1_takesOn.2.1 10 = .ok (.ireturn, 1) := by decide +kernel
theorem dX1_takesOn_11 : decode YX1_takesOn.2.1 11 = .ok (.aload_n 0, 1) := by decide +kernel
theorem dX1_takesOn_12 : decode YX1_takesOn.2.1 12 = .ok (.iload_n 2, 1) := by decide +kernel
theorem dX1_takesOn_13 : decode YX1_takesOn.2.1 13 = .ok (.invokevirtual 73, 3) := by decide +kernel
theorem dX1_takesOn_16 : decode YX1_takesOn.2.1 16 = .ok (.ifCond .le 5, 3) := by decide +kernel
theorem dX1_takesOn_19 : decode YX1_takesOn.2.1 19 = .ok (.iconst 2, 1) := by decide +kernel
theorem dX1_takesOn_20 : decode YX1_takesOn.2.1 20 = .ok (.ireturn, 1) := by decide +kernel
theorem dX1_takesOn_21 : decode YX1_takesOn.2.1 21 = .ok (.aload_n 0, 1) := by decide +kernel
theorem dX1_takesOn_22 : decode YX1_takesOn.2.1 22 = .ok (.iload_n 2, 1) := by decide +kernel
theorem dX1_takesOn_23 : decode YX1_takesOn.2.1 23 = .ok (.iload_n 1, 1) := by decide +kernel
theorem dX1_takesOn_24 : decode YX1_takesOn.2.1 24 = .ok (.iload_n 3, 1) := by decide +kernel
theorem dX1_takesOn_25 : decode YX1_takesOn.2.1 25 = .ok (.invokevirtual 99, 3) := by decide +kernel
theorem dX1_takesOn_28 : decode YX1_takesOn.2.1 28 = .ok (.iconst 0, 1) := by decide +kernel
theorem dX1_takesOn_29 : decode YX1_takesOn.2.1 29 = .ok (.ireturn, 1) := by decide +kernel
theorem dX1_wasAt_0 : decode YX1_wasAt.2.1 0 = .ok (.iload_n 1, 1) := by decide +kernel
theorem dX1_wasAt_1 : decode YX1_wasAt.2.1 1 = .ok (.invokestatic 58, 3) := by decide +kernel
theorem dX1_wasAt_4 : decode YX1_wasAt.2.1 4 = .ok (.ifCond .eq 27, 3) := by decide +kernel
theorem dX1_wasAt_7 : decode YX1_wasAt.2.1 7 = .ok (.iload_n 2, 1) := by decide +kernel
theorem dX1_wasAt_8 : decode YX1_wasAt.2.1 8 = .ok (.ifCond .lt 23, 3) := by decide +kernel
theorem dX1_wasAt_11 : decode YX1_wasAt.2.1 11 = .ok (.iload_n 2, 1) := by decide +kernel
theorem dX1_wasAt_12 : decode YX1_wasAt.2.1 12 = .ok (.bipush 6, 2) := by decide +kernel
theorem dX1_wasAt_14 : decode YX1_wasAt.2.1 14 = .ok (.if_icmp .ge 17, 3) := by decide +kernel
theorem dX1_wasAt_17 : decode YX1_wasAt.2.1 17 = .ok (.aload_n 0, 1) := by decide +kernel
theorem dX1_wasAt_18 : decode YX1_wasAt.2.1 18 = .ok (.getfield 9, 3) := by decide +kernel
theorem dX1_wasAt_21 : decode YX1_wasAt.2.1 21 = .ok (.iload_n 1, 1) := by decide +kernel
theorem dX1_wasAt_22 : decode YX1_wasAt.2.1 22 = .ok (.bipush 6, 2) := by decide +kernel
theorem dX1_wasAt_24 : decode YX1_wasAt.2.1 24 = .ok (.imul, 1) := by decide +kernel
theorem dX1_wasAt_25 : decode YX1_wasAt.2.1 25 = .ok (.iload_n 2, 1) := by decide +kernel
theorem dX1_wasAt_26 : decode YX1_wasAt.2.1 26 = .ok (.iadd, 1) := by decide +kernel
theorem dX1_wasAt_27 : decode YX1_wasAt.2.1 27 = .ok (.iaload, 1) := by decide +kernel
theorem dX1_wasAt_28 : decode YX1_wasAt.2.1 28 = .ok (.goto 4, 3) := by decide +kernel
theorem dX1_wasAt_31 : decode YX1_wasAt.2.1 31 = .ok (.iconst (-1), 1) := by decide +kernel
theorem dX1_wasAt_32 : decode YX1_wasAt.2.1 32 = .ok (.ireturn, 1) := by decide +kernel
theorem dX1_wayLeft_0 : decode YX1_wayLeft.2.1 0 = .ok (.iload_n 1, 1) := by decide +kernel
theorem dX1_wayLeft_1 : decode YX1_wayLeft.2.1 1 = .ok (.invokestatic 58, 3) := by decide +kernel
theorem dX1_wayLeft_4 : decode YX1_wayLeft.2.1 4 = .ok (.ifCond .eq 12, 3) := by decide +kernel
theorem dX1_wayLeft_7 : decode YX1_wayLeft.2.1 7 = .ok (.aload_n 0, 1) := by decide +kernel
theorem dX1_wayLeft_8 : decode YX1_wayLeft.2.1 8 = .ok (.getfield 27, 3) := by decide +kernel
theorem dX1_wayLeft_11 : decode YX1_wayLeft.2.1 11 = .ok (.iload_n 1, 1) := by decide +kernel
theorem dX1_wayLeft_12 : decode YX1_wayLeft.2.1 12 = .ok (.iaload, 1) := by decide +kernel
theorem dX1_wayLeft_13 : decode YX1_wayLeft.2.1 13 = .ok (.goto 4, 3) := by decide +kernel
theorem dX1_wayLeft_16 : decode YX1_wayLeft.2.1 16 = .ok (.iconst 0, 1) := by decide +kernel
theorem dX1_wayLeft_17 : decode YX1_wayLeft.2.1 17 = .ok (.ireturn, 1) := by decide +kernel
theorem dX1_whereIs_0 : decode YX1_whereIs.2.1 0 = .ok (.aload_n 0, 1) := by decide +kernel
theorem dX1_whereIs_1 : decode YX1_whereIs.2.1 1 = .ok (.iload_n 1, 1) := by decide +kernel
theorem dX1_whereIs_2 : decode YX1_whereIs.2.1 2 = .ok (.iconst 0, 1) := by decide +kernel
theorem dX1_whereIs_3 : decode YX1_whereIs.2.1 3 = .ok (.invokevirtual 62, 3) := by decide +kernel
theorem dX1_whereIs_6 : decode YX1_whereIs.2.1 6 = .ok (.ireturn, 1) := by decide +kernel
theorem dX1_whoFollows_0 : decode YX1_whoFollows.2.1 0 = .ok (.iconst 0, 1) := by decide +kernel
theorem dX1_whoFollows_1 : decode YX1_whoFollows.2.1 1 = .ok (.istore_n 1, 1) := by decide +kernel
theorem dX1_whoFollows_2 : decode YX1_whoFollows.2.1 2 = .ok (.iconst 0, 1) := by decide +kernel
theorem dX1_whoFollows_3 : decode YX1_whoFollows.2.1 3 = .ok (.istore_n 2, 1) := by decide +kernel
theorem dX1_whoFollows_4 : decode YX1_whoFollows.2.1 4 = .ok (.iload_n 2, 1) := by decide +kernel
theorem dX1_whoFollows_5 : decode YX1_whoFollows.2.1 5 = .ok (.bipush 6, 2) := by decide +kernel
theorem dX1_whoFollows_7 : decode YX1_whoFollows.2.1 7 = .ok (.if_icmp .ge 25, 3) := by decide +kernel
theorem dX1_whoFollows_10 : decode YX1_whoFollows.2.1 10 = .ok (.aload_n 0, 1) := by decide +kernel
theorem dX1_whoFollows_11 : decode YX1_whoFollows.2.1 11 = .ok (.getfield 18, 3) := by decide +kernel
theorem dX1_whoFollows_14 : decode YX1_whoFollows.2.1 14 = .ok (.iload_n 2, 1) := by decide +kernel
theorem dX1_whoFollows_15 : decode YX1_whoFollows.2.1 15 = .ok (.iaload, 1) := by decide +kernel
theorem dX1_whoFollows_16 : decode YX1_whoFollows.2.1 16 = .ok (.iconst (-1), 1) := by decide +kernel
theorem dX1_whoFollows_17 : decode YX1_whoFollows.2.1 17 = .ok (.if_icmp .eq 9, 3) := by decide +kernel
theorem dX1_whoFollows_20 : decode YX1_whoFollows.2.1 20 = .ok (.iload_n 1, 1) := by decide +kernel
theorem dX1_whoFollows_21 : decode YX1_whoFollows.2.1 21 = .ok (.iconst 1, 1) := by decide +kernel
theorem dX1_whoFollows_22 : decode YX1_whoFollows.2.1 22 = .ok (.iload_n 2, 1) := by decide +kernel
theorem dX1_whoFollows_23 : decode YX1_whoFollows.2.1 23 = .ok (.ishl, 1) := by decide +kernel
theorem dX1_whoFollows_24 : decode YX1_whoFollows.2.1 24 = .ok (.ior, 1) := by decide +kernel
theorem dX1_whoFollows_25 : decode YX1_whoFollows.2.1 25 = .ok (.istore_n 1, 1) := by decide +kernel
theorem dX1_whoFollows_26 : decode YX1_whoFollows.2.1 26 = .ok (.iinc 2 1, 3) := by decide +kernel
theorem dX1_whoFollows_29 : decode YX1_whoFollows.2.1 29 = .ok (.goto (-25), 3) := by decide +kernel
theorem dX1_whoFollows_32 : decode YX1_whoFollows.2.1 32 = .ok (.iload_n 1, 1) := by decide +kernel
theorem dX1_whoFollows_33 : decode YX1_whoFollows.2.1 33 = .ok (.ireturn, 1) := by decide +kernel
theorem dX1_whoHasWay_0 : decode YX1_whoHasWay.2.1 0 = .ok (.iconst 0, 1) := by decide +kernel
theorem dX1_whoHasWay_1 : decode YX1_whoHasWay.2.1 1 = .ok (.istore_n 1, 1) := by decide +kernel
theorem dX1_whoHasWay_2 : decode YX1_whoHasWay.2.1 2 = .ok (.iconst 0, 1) := by decide +kernel
theorem dX1_whoHasWay_3 : decode YX1_whoHasWay.2.1 3 = .ok (.istore_n 2, 1) := by decide +kernel
theorem dX1_whoHasWay_4 : decode YX1_whoHasWay.2.1 4 = .ok (.iload_n 2, 1) := by decide +kernel
theorem dX1_whoHasWay_5 : decode YX1_whoHasWay.2.1 5 = .ok (.bipush 6, 2) := by decide +kernel
theorem dX1_whoHasWay_7 : decode YX1_whoHasWay.2.1 7 = .ok (.if_icmp .ge 24, 3) := by decide +kernel
theorem dX1_whoHasWay_10 : decode YX1_whoHasWay.2.1 10 = .ok (.aload_n 0, 1) := by decide +kernel
theorem dX1_whoHasWay_11 : decode YX1_whoHasWay.2.1 11 = .ok (.getfield 27, 3) := by decide +kernel
theorem dX1_whoHasWay_14 : decode YX1_whoHasWay.2.1 14 = .ok (.iload_n 2, 1) := by decide +kernel
theorem dX1_whoHasWay_15 : decode YX1_whoHasWay.2.1 15 = .ok (.iaload, 1) := by decide +kernel
theorem dX1_whoHasWay_16 : decode YX1_whoHasWay.2.1 16 = .ok (.ifCond .le 9, 3) := by decide +kernel
theorem dX1_whoHasWay_19 : decode YX1_whoHasWay.2.1 19 = .ok (.iload_n 1, 1) := by decide +kernel
theorem dX1_whoHasWay_20 : decode YX1_whoHasWay.2.1 20 = .ok (.iconst 1, 1) := by decide +kernel
theorem dX1_whoHasWay_21 : decode YX1_whoHasWay.2.1 21 = .ok (.iload_n 2, 1) := by decide +kernel
theorem dX1_whoHasWay_22 : decode YX1_whoHasWay.2.1 22 = .ok (.ishl, 1) := by decide +kernel
theorem dX1_whoHasWay_23 : decode YX1_whoHasWay.2.1 23 = .ok (.ior, 1) := by decide +kernel
theorem dX1_whoHasWay_24 : decode YX1_whoHasWay.2.1 24 = .ok (.istore_n 1, 1) := by decide +kernel
theorem dX1_whoHasWay_25 : decode YX1_whoHasWay.2.1 25 = .ok (.iinc 2 1, 3) := by decide +kernel
theorem dX1_whoHasWay_28 : decode YX1_whoHasWay.2.1 28 = .ok (.goto (-24), 3) := by decide +kernel
theorem dX1_whoHasWay_31 : decode YX1_whoHasWay.2.1 31 = .ok (.iload_n 1, 1) := by decide +kernel
theorem dX1_whoHasWay_32 : decode YX1_whoHasWay.2.1 32 = .ok (.ireturn, 1) := by decide +kernel
theorem dX1_whoIsRinged_0 : decode YX1_whoIsRinged.2.1 0 = .ok (.iconst 0, 1) := by decide +kernel
theorem dX1_whoIsRinged_1 : decode YX1_whoIsRinged.2.1 1 = .ok (.istore_n 1, 1) := by decide +kernel
theorem dX1_whoIsRinged_2 : decode YX1_whoIsRinged.2.1 2 = .ok (.iconst 0, 1) := by decide +kernel
theorem dX1_whoIsRinged_3 : decode YX1_whoIsRinged.2.1 3 = .ok (.istore_n 2, 1) := by decide +kernel
theorem dX1_whoIsRinged_4 : decode YX1_whoIsRinged.2.1 4 = .ok (.iload_n 2, 1) := by decide +kernel
theorem dX1_whoIsRinged_5 : decode YX1_whoIsRinged.2.1 5 = .ok (.bipush 6, 2) := by decide +kernel
theorem dX1_whoIsRinged_7 : decode YX1_whoIsRinged.2.1 7 = .ok (.if_icmp .ge 17, 3) := by decide +kernel
theorem dX1_whoIsRinged_10 : decode YX1_whoIsRinged.2.1 10 = .ok (.iload_n 1, 1) := by decide +kernel
theorem dX1_whoIsRinged_11 : decode YX1_whoIsRinged.2.1 11 = .ok (.aload_n 0, 1) := by decide +kernel
theorem dX1_whoIsRinged_12 : decode YX1_whoIsRinged.2.1 12 = .ok (.iload_n 2, 1) := by decide +kernel
theorem dX1_whoIsRinged_13 : decode YX1_whoIsRinged.2.1 13 = .ok (.invokevirtual 76, 3) := by decide +kernel
theorem dX1_whoIsRinged_16 : decode YX1_whoIsRinged.2.1 16 = .ok (.ior, 1) := by decide +kernel
theorem dX1_whoIsRinged_17 : decode YX1_whoIsRinged.2.1 17 = .ok (.istore_n 1, 1) := by decide +kernel
theorem dX1_whoIsRinged_18 : decode YX1_whoIsRinged.2.1 18 = .ok (.iinc 2 1, 3) := by decide +kernel
theorem dX1_whoIsRinged_21 : decode YX1_whoIsRinged.2.1 21 = .ok (.goto (-17), 3) := by decide +kernel
theorem dX1_whoIsRinged_24 : decode YX1_whoIsRinged.2.1 24 = .ok (.iload_n 1, 1) := by decide +kernel
theorem dX1_whoIsRinged_25 : decode YX1_whoIsRinged.2.1 25 = .ok (.ireturn, 1) := by decide +kernel
theorem dX1_whoWasAt_0 : decode YX1_whoWasAt.2.1 0 = .ok (.iconst 0, 1) := by decide +kernel
theorem dX1_whoWasAt_1 : decode YX1_whoWasAt.2.1 1 = .ok (.istore_n 3, 1) := by decide +kernel
theorem dX1_whoWasAt_2 : decode YX1_whoWasAt.2.1 2 = .ok (.iconst 0, 1) := by decide +kernel
theorem dX1_whoWasAt_3 : decode YX1_whoWasAt.2.1 3 = .ok (.istore 4, 2) := by decide +kernel
theorem dX1_whoWasAt_5 : decode YX1_whoWasAt.2.1 5 = .ok (.iload 4, 2) := by decide +kernel
theorem dX1_whoWasAt_7 : decode YX1_whoWasAt.2.1 7 = .ok (.bipush 6, 2) := by decide +kernel
theorem dX1_whoWasAt_9 : decode YX1_whoWasAt.2.1 9 = .ok (.if_icmp .ge 27, 3) := by decide +kernel
theorem dX1_whoWasAt_12 : decode YX1_whoWasAt.2.1 12 = .ok (.aload_n 0, 1) := by decide +kernel
theorem dX1_whoWasAt_13 : decode YX1_whoWasAt.2.1 13 = .ok (.iload 4, 2) := by decide +kernel
theorem dX1_whoWasAt_15 : decode YX1_whoWasAt.2.1 15 = .ok (.iload_n 2, 1) := by decide +kernel
theorem dX1_whoWasAt_16 : decode YX1_whoWasAt.2.1 16 = .ok (.invokevirtual 62, 3) := by decide +kernel
theorem dX1_whoWasAt_19 : decode YX1_whoWasAt.2.1 19 = .ok (.iload_n 1, 1) := by decide +kernel
theorem dX1_whoWasAt_20 : decode YX1_whoWasAt.2.1 20 = .ok (.if_icmp .ne 10, 3) := by decide +kernel
theorem dX1_whoWasAt_23 : decode YX1_whoWasAt.2.1 23 = .ok (.iload_n 3, 1) := by decide +kernel
theorem dX1_whoWasAt_24 : decode YX1_whoWasAt.2.1 24 = .ok (.iconst 1, 1) := by decide +kernel
theorem dX1_whoWasAt_25 : decode YX1_whoWasAt.2.1 25 = .ok (.iload 4, 2) := by decide +kernel
theorem dX1_whoWasAt_27 : decode YX1_whoWasAt.2.1 27 = .ok (.ishl, 1) := by decide +kernel
theorem dX1_whoWasAt_28 : decode YX1_whoWasAt.2.1 28 = .ok (.ior, 1) := by decide +kernel
theorem dX1_whoWasAt_29 : decode YX1_whoWasAt.2.1 29 = .ok (.istore_n 3, 1) := by decide +kernel
theorem dX1_whoWasAt_30 : decode YX1_whoWasAt.2.1 30 = .ok (.iinc 4 1, 3) := by decide +kernel
theorem dX1_whoWasAt_33 : decode YX1_whoWasAt.2.1 33 = .ok (.goto (-28), 3) := by decide +kernel
theorem dX1_whoWasAt_36 : decode YX1_whoWasAt.2.1 36 = .ok (.iload_n 3, 1) := by decide +kernel
theorem dX1_whoWasAt_37 : decode YX1_whoWasAt.2.1 37 = .ok (.ireturn, 1) := by decide +kernel
theorem dX2_act_0 : decode YX2_act.2.1 0 = .ok (.aload_n 0, 1) := by decide +kernel
theorem dX2_act_1 : decode YX2_act.2.1 1 = .ok (.bipush 8, 2) := by decide +kernel
theorem dX2_act_3 : decode YX2_act.2.1 3 = .ok (.invokevirtual 41, 3) := by decide +kernel
theorem dX2_act_6 : decode YX2_act.2.1 6 = .ok (.tableswitch 112 0 5 #[38, 76, 85, 85, 85, 103], 38) := by decide +kernel
theorem dX2_act_44 : decode YX2_act.2.1 44 = .ok (.aload_n 0, 1) := by decide +kernel
theorem dX2_act_45 : decode YX2_act.2.1 45 = .ok (.aload_n 1, 1) := by decide +kernel
theorem dX2_act_46 : decode YX2_act.2.1 46 = .ok (.invokevirtual 28, 3) := by decide +kernel
theorem dX2_act_49 : decode YX2_act.2.1 49 = .ok (.invokevirtual 41, 3) := by decide +kernel
theorem dX2_act_52 : decode YX2_act.2.1 52 = .ok (.istore 4, 2) := by decide +kernel
theorem dX2_act_54 : decode YX2_act.2.1 54 = .ok (.aload_n 0, 1) := by decide +kernel
theorem dX2_act_55 : decode YX2_act.2.1 55 = .ok (.iconst 5, 1) := by decide +kernel
theorem dX2_act_56 : decode YX2_act.2.1 56 = .ok (.invokevirtual 41, 3) := by decide +kernel
theorem dX2_act_59 : decode YX2_act.2.1 59 = .ok (.iconst 1, 1) := by decide +kernel
theorem dX2_act_60 : decode YX2_act.2.1 60 = .ok (.iadd, 1) := by decide +kernel
theorem dX2_act_61 : decode YX2_act.2.1 61 = .ok (.istore 5, 2) := by decide +kernel
theorem dX2_act_63 : decode YX2_act.2.1 63 = .ok (.iload_n 3, 1) := by decide +kernel
theorem dX2_act_64 : decode YX2_act.2.1 64 = .ok (.iload 4, 2) := by decide +kernel
theorem dX2_act_66 : decode YX2_act.2.1 66 = .ok (.if_icmp .eq 52, 3) := by decide +kernel
theorem dX2_act_69 : decode YX2_act.2.1 69 = .ok (.aload_n 2, 1) := by decide +kernel
theorem dX2_act_70 : decode YX2_act.2.1 70 = .ok (.iload_n 3, 1) := by decide +kernel
theorem dX2_act_71 : decode YX2_act.2.1 71 = .ok (.iload 4, 2) := by decide +kernel
theorem dX2_act_73 : decode YX2_act.2.1 73 = .ok (.iload 5, 2) := by decide +kernel
theorem dX2_act_75 : decode YX2_act.2.1 75 = .ok (.invokevirtual 45, 3) := by decide +kernel
theorem dX2_act_78 : decode YX2_act.2.1 78 = .ok (.pop, 1) := by decide +kernel
theorem dX2_act_79 : decode YX2_act.2.1 79 = .ok (.goto 39, 3) := by decide +kernel
theorem dX2_act_82 : decode YX2_act.2.1 82 = .ok (.aload_n 2, 1) := by decide +kernel
theorem dX2_act_83 : decode YX2_act.2.1 83 = .ok (.iload_n 3, 1) := by decide +kernel
theorem dX2_act_84 : decode YX2_act.2.1 84 = .ok (.invokevirtual 49, 3) := by decide +kernel
theorem dX2_act_87 : decode YX2_act.2.1 87 = .ok (.pop, 1) := by decide +kernel
theorem dX2_act_88 : decode YX2_act.2.1 88 = .ok (.goto 30, 3) := by decide +kernel
theorem dX2_act_91 : decode YX2_act.2.1 91 = .ok (.aload_n 2, 1) := by decide +kernel
theorem dX2_act_92 : decode YX2_act.2.1 92 = .ok (.aload_n 1, 1) := by decide +kernel
theorem dX2_act_93 : decode YX2_act.2.1 93 = .ok (.iload_n 3, 1) := by decide +kernel
theorem dX2_act_94 : decode YX2_act.2.1 94 = .ok (.aload_n 0, 1) := by decide +kernel
theorem dX2_act_95 : decode YX2_act.2.1 95 = .ok (.aload_n 1, 1) := by decide +kernel
theorem dX2_act_96 : decode YX2_act.2.1 96 = .ok (.invokevirtual 52, 3) := by decide +kernel
theorem dX2_act_99 : decode YX2_act.2.1 99 = .ok (.invokevirtual 41, 3) := by decide +kernel
theorem dX2_act_102 : decode YX2_act.2.1 102 = .ok (.invokevirtual 55, 3) := by decide +kernel
theorem dX2_act_105 : decode YX2_act.2.1 105 = .ok (.pop, 1) := by decide +kernel
theorem dX2_act_106 : decode YX2_act.2.1 106 = .ok (.goto 12, 3) := by decide +kernel
theorem dX2_act_109 : decode YX2_act.2.1 109 = .ok (.aload_n 2, 1) := by decide +kernel
theorem dX2_act_110 : decode YX2_act.2.1 110 = .ok (.iload_n 3, 1) := by decide +kernel
theorem dX2_act_111 : decode YX2_act.2.1 111 = .ok (.invokevirtual 59, 3) := by decide +kernel
theorem dX2_act_114 : decode YX2_act.2.1 114 = .ok (.pop, 1) := by decide +kernel
theorem dX2_act_115 : decode YX2_act.2.1 115 = .ok (.goto 3, 3) := by decide +kernel
theorem dX2_act_118 : decode YX2_act.2.1 118 = .ok (.return_, 1) := by decide +kernel
theorem dX2_draw_0 : decode YX2_draw.2.1 0 = .ok (.aload_n 0, 1) := by decide +kernel
theorem dX2_draw_1 : decode YX2_draw.2.1 1 = .ok (.aload_n 0, 1) := by decide +kernel
theorem dX2_draw_2 : decode YX2_draw.2.1 2 = .ok (.getfield 9, 3) := by decide +kernel
theorem dX2_draw_5 : decode YX2_draw.2.1 5 = .ok (.ldc 15, 2) := by decide +kernel
theorem dX2_draw_7 : decode YX2_draw.2.1 7 = .ok (.imul, 1) := by decide +kernel
theorem dX2_draw_8 : decode YX2_draw.2.1 8 = .ok (.sipush 12345, 3) := by decide +kernel
theorem dX2_draw_11 : decode YX2_draw.2.1 11 = .ok (.iadd, 1) := by decide +kernel
theorem dX2_draw_12 : decode YX2_draw.2.1 12 = .ok (.putfield 9, 3) := by decide +kernel
theorem dX2_draw_15 : decode YX2_draw.2.1 15 = .ok (.iload_n 1, 1) := by decide +kernel
theorem dX2_draw_16 : decode YX2_draw.2.1 16 = .ok (.ifCond .le 15, 3) := by decide +kernel
theorem dX2_draw_19 : decode YX2_draw.2.1 19 = .ok (.aload_n 0, 1) := by decide +kernel
theorem dX2_draw_20 : decode YX2_draw.2.1 20 = .ok (.getfield 9, 3) := by decide +kernel
theorem dX2_draw_23 : decode YX2_draw.2.1 23 = .ok (.bipush 8, 2) := by decide +kernel
theorem dX2_draw_25 : decode YX2_draw.2.1 25 = .ok (.iushr, 1) := by decide +kernel
theorem dX2_draw_26 : decode YX2_draw.2.1 26 = .ok (.iload_n 1, 1) := by decide +kernel
theorem dX2_draw_27 : decode YX2_draw.2.1 27 = .ok (.irem, 1) := by decide +kernel
theorem dX2_draw_28 : decode YX2_draw.2.1 28 = .ok (.goto 4, 3) := by decide +kernel
theorem dX2_draw_31 : decode YX2_draw.2.1 31 = .ok (.iconst 0, 1) := by decide +kernel
theorem dX2_draw_32 : decode YX2_draw.2.1 32 = .ok (.ireturn, 1) := by decide +kernel
theorem dX2_passMinutes_0 : decode YX2_passMinutes.2.1 0 = .ok (.aload_n 0, 1) := by decide +kernel
theorem dX2_passMinutes_1 : decode YX2_passMinutes.2.1 1 = .ok (.iload 4, 2) := by decide +kernel
theorem dX2_passMinutes_3 : decode YX2_passMinutes.2.1 3 = .ok (.putfield 9, 3) := by decide +kernel
theorem dX2_passMinutes_6 : decode YX2_passMinutes.2.1 6 = .ok (.iload_n 3, 1) := by decide +kernel
theorem dX2_passMinutes_7 : decode YX2_passMinutes.2.1 7 = .ok (.aload_n 2, 1) := by decide +kernel
theorem dX2_passMinutes_8 : decode YX2_passMinutes.2.1 8 = .ok (.invokevirtual 16, 3) := by decide +kernel
theorem dX2_passMinutes_11 : decode YX2_passMinutes.2.1 11 = .ok (.invokestatic 22, 3) := by decide +kernel
theorem dX2_passMinutes_14 : decode YX2_passMinutes.2.1 14 = .ok (.istore 5, 2) := by decide +kernel
theorem dX2_passMinutes_16 : decode YX2_passMinutes.2.1 16 = .ok (.iconst 0, 1) := by decide +kernel
theorem dX2_passMinutes_17 : decode YX2_passMinutes.2.1 17 = .ok (.istore 6, 2) := by decide +kernel
theorem dX2_passMinutes_19 : decode YX2_passMinutes.2.1 19 = .ok (.iload 6, 2) := by decide +kernel
theorem dX2_passMinutes_21 : decode YX2_passMinutes.2.1 21 = .ok (.iload 5, 2) := by decide +kernel
theorem dX2_passMinutes_23 : decode YX2_passMinutes.2.1 23 = .ok (.if_icmp .ge 41, 3) := by decide +kernel
theorem dX2_passMinutes_26 : decode YX2_passMinutes.2.1 26 = .ok (.iconst 0, 1) := by decide +kernel
theorem dX2_passMinutes_27 : decode YX2_passMinutes.2.1 27 = .ok (.istore 7, 2) := by decide +kernel
theorem dX2_passMinutes_29 : decode YX2_passMinutes.2.1 29 = .ok (.iload 7, 2) := by decide +kernel
theorem dX2_passMinutes_31 : decode YX2_passMinutes.2.1 31 = .ok (.aload_n 1, 1) := by decide +kernel
theorem dX2_passMinutes_32 : decode YX2_passMinutes.2.1 32 = .ok (.invokevirtual 28, 3) := by decide +kernel
theorem dX2_passMinutes_35 : decode YX2_passMinutes.2.1 35 = .ok (.if_icmp .ge 17, 3) := by decide +kernel
theorem dX2_passMinutes_38 : decode YX2_passMinutes.2.1 38 = .ok (.aload_n 0, 1) := by decide +kernel
theorem dX2_passMinutes_39 : decode YX2_passMinutes.2.1 39 = .ok (.aload_n 1, 1) := by decide +kernel
theorem dX2_passMinutes_40 : decode YX2_passMinutes.2.1 40 = .ok (.aload_n 2, 1) := by decide +kernel
theorem dX2_passMinutes_41 : decode YX2_passMinutes.2.1 41 = .ok (.iload 7, 2) := by decide +kernel
theorem dX2_passMinutes_43 : decode YX2_passMinutes.2.1 43 = .ok (.invokevirtual 33, 3) := by decide +kernel
theorem dX2_passMinutes_46 : decode YX2_passMinutes.2.1 46 = .ok (.iinc 7 1, 3) := by decide +kernel
theorem dX2_passMinutes_49 : decode YX2_passMinutes.2.1 49 = .ok (.goto (-20), 3) := by decide +kernel
theorem dX2_passMinutes_52 : decode YX2_passMinutes.2.1 52 = .ok (.aload_n 2, 1) := by decide +kernel
theorem dX2_passMinutes_53 : decode YX2_passMinutes.2.1 53 = .ok (.aload_n 1, 1) := by decide +kernel
theorem dX2_passMinutes_54 : decode YX2_passMinutes.2.1 54 = .ok (.iconst 1, 1) := by decide +kernel
theorem dX2_passMinutes_55 : decode YX2_passMinutes.2.1 55 = .ok (.invokevirtual 37, 3) := by decide +kernel
theorem dX2_passMinutes_58 : decode YX2_passMinutes.2.1 58 = .ok (.iinc 6 1, 3) := by decide +kernel
theorem dX2_passMinutes_61 : decode YX2_passMinutes.2.1 61 = .ok (.goto (-42), 3) := by decide +kernel
theorem dX2_passMinutes_64 : decode YX2_passMinutes.2.1 64 = .ok (.iload 5, 2) := by decide +kernel
theorem dX2_passMinutes_66 : decode YX2_passMinutes.2.1 66 = .ok (.ireturn, 1) := by decide +kernel
theorem dX3_clear_0 : decode YX3_clear.2.1 0 = .ok (.aload_n 0, 1) := by decide +kernel
theorem dX3_clear_1 : decode YX3_clear.2.1 1 = .ok (.iconst 0, 1) := by decide +kernel
theorem dX3_clear_2 : decode YX3_clear.2.1 2 = .ok (.putfield 16, 3) := by decide +kernel
theorem dX3_clear_5 : decode YX3_clear.2.1 5 = .ok (.return_, 1) := by decide +kernel
theorem dX3_length_0 : decode YX3_length.2.1 0 = .ok (.aload_n 0, 1) := by decide +kernel
theorem dX3_length_1 : decode YX3_length.2.1 1 = .ok (.getfield 16, 3) := by decide +kernel
theorem dX3_length_4 : decode YX3_length.2.1 4 = .ok (.ireturn, 1) := by decide +kernel
theorem dX5_addByte_0 : decode YX5_addByte.2.1 0 = .ok (.aload_n 0, 1) := by decide +kernel
theorem dX5_addByte_1 : decode YX5_addByte.2.1 1 = .ok (.getfield 15, 3) := by decide +kernel
theorem dX5_addByte_4 : decode YX5_addByte.2.1 4 = .ok (.bipush 40, 2) := by decide +kernel
theorem dX5_addByte_6 : decode YX5_addByte.2.1 6 = .ok (.if_icmp .ge 23, 3) := by decide +kernel
theorem dX5_addByte_9 : decode YX5_addByte.2.1 9 = .ok (.aload_n 0, 1) := by decide +kernel
theorem dX5_addByte_10 : decode YX5_addByte.2.1 10 = .ok (.getfield 11, 3) := by decide +kernel
theorem dX5_addByte_13 : decode YX5_addByte.2.1 13 = .ok (.aload_n 0, 1) := by decide +kernel
theorem dX5_addByte_14 : decode YX5_addByte.2.1 14 = .ok (.getfield 15, 3) := by decide +kernel
theorem dX5_addByte_17 : decode YX5_addByte.2.1 17 = .ok (.iload_n 1, 1) := by decide +kernel
theorem dX5_addByte_18 : decode YX5_addByte.2.1 18 = .ok (.iastore, 1) := by decide +kernel
theorem dX5_addByte_19 : decode YX5_addByte.2.1 19 = .ok (.aload_n 0, 1) := by decide +kernel
theorem dX5_addByte_20 : decode YX5_addByte.2.1 20 = .ok (.dup, 1) := by decide +kernel
theorem dX5_addByte_21 : decode YX5_addByte.2.1 21 = .ok (.getfield 15, 3) := by decide +kernel
theorem dX5_addByte_24 : decode YX5_addByte.2.1 24 = .ok (.iconst 1, 1) := by decide +kernel
theorem dX5_addByte_25 : decode YX5_addByte.2.1 25 = .ok (.iadd, 1) := by decide +kernel
theorem dX5_addByte_26 : decode YX5_addByte.2.1 26 = .ok (.putfield 15, 3) := by decide +kernel
theorem dX5_addByte_29 : decode YX5_addByte.2.1 29 = .ok (.return_, 1) := by decide +kernel
theorem dX5_addName_0 : decode YX5_addName.2.1 0 = .ok (.bipush 30, 2) := by decide +kernel
theorem dX5_addName_2 : decode YX5_addName.2.1 2 = .ok (.istore_n 3, 1) := by decide +kernel
theorem dX5_addName_3 : decode YX5_addName.2.1 3 = .ok (.iload_n 3, 1) := by decide +kernel
theorem dX5_addName_4 : decode YX5_addName.2.1 4 = .ok (.ifCond .lt 35, 3) := by decide +kernel
theorem dX5_addName_7 : decode YX5_addName.2.1 7 = .ok (.lload_n 1, 1) := by decide +kernel
theorem dX5_addName_8 : decode YX5_addName.2.1 8 = .ok (.iload_n 3, 1) := by decide +kernel
theorem dX5_addName_9 : decode YX5_addName.2.1 9 = .ok (.lshr, 1) := by decide +kernel
theorem dX5_addName_10 : decode YX5_addName.2.1 10 = .ok (.ldc2_w 33, 3) := by decide +kernel
theorem dX5_addName_13 : decode YX5_addName.2.1 13 = .ok (.land, 1) := by decide +kernel
theorem dX5_addName_14 : decode YX5_addName.2.1 14 = .ok (.l2i, 1) := by decide +kernel
theorem dX5_addName_15 : decode YX5_addName.2.1 15 = .ok (.istore 4, 2) := by decide +kernel
theorem dX5_addName_17 : decode YX5_addName.2.1 17 = .ok (.iload 4, 2) := by decide +kernel
theorem dX5_addName_19 : decode YX5_addName.2.1 19 = .ok (.ifCond .eq 14, 3) := by decide +kernel
theorem dX5_addName_22 : decode YX5_addName.2.1 22 = .ok (.aload_n 0, 1) := by decide +kernel
theorem dX5_addName_23 : decode YX5_addName.2.1 23 = .ok (.bipush 97, 2) := by decide +kernel
theorem dX5_addName_25 : decode YX5_addName.2.1 25 = .ok (.iload 4, 2) := by decide +kernel
theorem dX5_addName_27 : decode YX5_addName.2.1 27 = .ok (.iadd, 1) := by decide +kernel
theorem dX5_addName_28 : decode YX5_addName.2.1 28 = .ok (.iconst 1, 1) := by decide +kernel
theorem dX5_addName_29 : decode YX5_addName.2.1 29 = .ok (.isub, 1) := by decide +kernel
theorem dX5_addName_30 : decode YX5_addName.2.1 30 = .ok (.invokevirtual 29, 3) := by decide +kernel
theorem dX5_addName_33 : decode YX5_addName.2.1 33 = .ok (.iinc 3 (-5), 3) := by decide +kernel
theorem dX5_addName_36 : decode YX5_addName.2.1 36 = .ok (.goto (-33), 3) := by decide +kernel
theorem dX5_addName_39 : decode YX5_addName.2.1 39 = .ok (.return_, 1) := by decide +kernel
theorem dX5_byteOf_0 : decode YX5_byteOf.2.1 0 = .ok (.iload_n 1, 1) := by decide +kernel
theorem dX5_byteOf_1 : decode YX5_byteOf.2.1 1 = .ok (.ifCond .lt 26, 3) := by decide +kernel
theorem dX5_byteOf_4 : decode YX5_byteOf.2.1 4 = .ok (.iload_n 1, 1) := by decide +kernel
theorem dX5_byteOf_5 : decode YX5_byteOf.2.1 5 = .ok (.aload_n 0, 1) := by decide +kernel
theorem dX5_byteOf_6 : decode YX5_byteOf.2.1 6 = .ok (.getfield 15, 3) := by decide +kernel
theorem dX5_byteOf_9 : decode YX5_byteOf.2.1 9 = .ok (.if_icmp .ge 18, 3) := by decide +kernel
theorem dX5_byteOf_12 : decode YX5_byteOf.2.1 12 = .ok (.iload_n 1, 1) := by decide +kernel
theorem dX5_byteOf_13 : decode YX5_byteOf.2.1 13 = .ok (.bipush 40, 2) := by decide +kernel
theorem dX5_byteOf_15 : decode YX5_byteOf.2.1 15 = .ok (.if_icmp .ge 12, 3) := by decide +kernel
theorem dX5_byteOf_18 : decode YX5_byteOf.2.1 18 = .ok (.aload_n 0, 1) := by decide +kernel
theorem dX5_byteOf_19 : decode YX5_byteOf.2.1 19 = .ok (.getfield 11, 3) := by decide +kernel
theorem dX5_byteOf_22 : decode YX5_byteOf.2.1 22 = .ok (.iload_n 1, 1) := by decide +kernel
theorem dX5_byteOf_23 : decode YX5_byteOf.2.1 23 = .ok (.iaload, 1) := by decide +kernel
theorem dX5_byteOf_24 : decode YX5_byteOf.2.1 24 = .ok (.goto 4, 3) := by decide +kernel
theorem dX5_byteOf_27 : decode YX5_byteOf.2.1 27 = .ok (.iconst (-1), 1) := by decide +kernel
theorem dX5_byteOf_28 : decode YX5_byteOf.2.1 28 = .ok (.ireturn, 1) := by decide +kernel
theorem dX5_clear_0 : decode YX5_clear.2.1 0 = .ok (.aload_n 0, 1) := by decide +kernel
theorem dX5_clear_1 : decode YX5_clear.2.1 1 = .ok (.iconst 0, 1) := by decide +kernel
theorem dX5_clear_2 : decode YX5_clear.2.1 2 = .ok (.putfield 15, 3) := by decide +kernel
theorem dX5_clear_5 : decode YX5_clear.2.1 5 = .ok (.return_, 1) := by decide +kernel
theorem dX6_chosenFor_0 : decode YX6_chosenFor.2.1 0 = .ok (.iload_n 1, 1) := by decide +kernel
theorem dX6_chosenFor_1 : decode YX6_chosenFor.2.1 1 = .ok (.ifCond .lt 18, 3) := by decide +kernel
theorem dX6_chosenFor_4 : decode YX6_chosenFor.2.1 4 = .ok (.iload_n 1, 1) := by decide +kernel
theorem dX6_chosenFor_5 : decode YX6_chosenFor.2.1 5 = .ok (.bipush 6, 2) := by decide +kernel
theorem dX6_chosenFor_7 : decode YX6_chosenFor.2.1 7 = .ok (.if_icmp .ge 12, 3) := by decide +kernel
theorem dX6_chosenFor_10 : decode YX6_chosenFor.2.1 10 = .ok (.aload_n 0, 1) := by decide +kernel
theorem dX6_chosenFor_11 : decode YX6_chosenFor.2.1 11 = .ok (.getfield 15, 3) := by decide +kernel
theorem dX6_chosenFor_14 : decode YX6_chosenFor.2.1 14 = .ok (.iload_n 1, 1) := by decide +kernel
theorem dX6_chosenFor_15 : decode YX6_chosenFor.2.1 15 = .ok (.iaload, 1) := by decide +kernel
theorem dX6_chosenFor_16 : decode YX6_chosenFor.2.1 16 = .ok (.goto 4, 3) := by decide +kernel
theorem dX6_chosenFor_19 : decode YX6_chosenFor.2.1 19 = .ok (.iconst (-1), 1) := by decide +kernel
theorem dX6_chosenFor_20 : decode YX6_chosenFor.2.1 20 = .ok (.ireturn, 1) := by decide +kernel
theorem dX6_farInAll_0 : decode YX6_farInAll.2.1 0 = .ok (.aload_n 0, 1) := by decide +kernel
theorem dX6_farInAll_1 : decode YX6_farInAll.2.1 1 = .ok (.getfield 22, 3) := by decide +kernel
theorem dX6_farInAll_4 : decode YX6_farInAll.2.1 4 = .ok (.ireturn, 1) := by decide +kernel
theorem dX6_keepIfBetter_0 : decode YX6_keepIfBetter.2.1 0 = .ok (.iload_n 1, 1) := by decide +kernel
theorem dX6_keepIfBetter_1 : decode YX6_keepIfBetter.2.1 1 = .ok (.aload_n 0, 1) := by decide +kernel
theorem dX6_keepIfBetter_2 : decode YX6_keepIfBetter.2.1 2 = .ok (.getfield 18, 3) := by decide +kernel
theorem dX6_keepIfBetter_5 : decode YX6_keepIfBetter.2.1 5 = .ok (.if_icmp .gt 19, 3) := by decide +kernel
theorem dX6_keepIfBetter_8 : decode YX6_keepIfBetter.2.1 8 = .ok (.iload_n 1, 1) := by decide +kernel
theorem dX6_keepIfBetter_9 : decode YX6_keepIfBetter.2.1 9 = .ok (.aload_n 0, 1) := by decide +kernel
theorem dX6_keepIfBetter_10 : decode YX6_keepIfBetter.2.1 10 = .ok (.getfield 18, 3) := by decide +kernel
theorem dX6_keepIfBetter_13 : decode YX6_keepIfBetter.2.1 13 = .ok (.if_icmp .ne 36, 3) := by decide +kernel
theorem dX6_keepIfBetter_16 : decode YX6_keepIfBetter.2.1 16 = .ok (.iload_n 2, 1) := by decide +kernel
theorem dX6_keepIfBetter_17 : decode YX6_keepIfBetter.2.1 17 = .ok (.aload_n 0, 1) := by decide +kernel
theorem dX6_keepIfBetter_18 : decode YX6_keepIfBetter.2.1 18 = .ok (.getfield 22, 3) := by decide +kernel
theorem dX6_keepIfBetter_21 : decode YX6_keepIfBetter.2.1 21 = .ok (.if_icmp .ge 28, 3) := by decide +kernel
theorem dX6_keepIfBetter_24 : decode YX6_keepIfBetter.2.1 24 = .ok (.aload_n 0, 1) := by decide +kernel
theorem dX6_keepIfBetter_25 : decode YX6_keepIfBetter.2.1 25 = .ok (.iload_n 1, 1) := by decide +kernel
theorem dX6_keepIfBetter_26 : decode YX6_keepIfBetter.2.1 26 = .ok (.putfield 18, 3) := by decide +kernel
theorem dX6_keepIfBetter_29 : decode YX6_keepIfBetter.2.1 29 = .ok (.aload_n 0, 1) := by decide +kernel
theorem dX6_keepIfBetter_30 : decode YX6_keepIfBetter.2.1 30 = .ok (.iload_n 2, 1) := by decide +kernel
theorem dX6_keepIfBetter_31 : decode YX6_keepIfBetter.2.1 31 = .ok (.putfield 22, 3) := by decide +kernel
theorem dX6_keepIfBetter_34 : decode YX6_keepIfBetter.2.1 34 = .ok (.aload_n 0, 1) := by decide +kernel
theorem dX6_keepIfBetter_35 : decode YX6_keepIfBetter.2.1 35 = .ok (.getfield 9, 3) := by decide +kernel
theorem dX6_keepIfBetter_38 : decode YX6_keepIfBetter.2.1 38 = .ok (.iconst 0, 1) := by decide +kernel
theorem dX6_keepIfBetter_39 : decode YX6_keepIfBetter.2.1 39 = .ok (.aload_n 0, 1) := by decide +kernel
theorem dX6_keepIfBetter_40 : decode YX6_keepIfBetter.2.1 40 = .ok (.getfield 15, 3) := by decide +kernel
theorem dX6_keepIfBetter_43 : decode YX6_keepIfBetter.2.1 43 = .ok (.iconst 0, 1) := by decide +kernel
theorem dX6_keepIfBetter_44 : decode YX6_keepIfBetter.2.1 44 = .ok (.bipush 6, 2) := by decide +kernel
theorem dX6_keepIfBetter_46 : decode YX6_keepIfBetter.2.1 46 = .ok (.invokestatic 69, 3) := by decide +kernel
theorem dX6_keepIfBetter_49 : decode YX6_keepIfBetter.2.1 49 = .ok (.return_, 1) := by decide +kernel
theorem dX7_areBeside_0 : decode YX7_areBeside.2.1 0 = .ok (.aload_n 0, 1) := by decide +kernel
theorem dX7_areBeside_1 : decode YX7_areBeside.2.1 1 = .ok (.iload_n 2, 1) := by decide +kernel
theorem dX7_areBeside_2 : decode YX7_areBeside.2.1 2 = .ok (.invokevirtual 35, 3) := by decide +kernel
theorem dX7_areBeside_5 : decode YX7_areBeside.2.1 5 = .ok (.ifCond .eq 19, 3) := by decide +kernel
theorem dX7_areBeside_8 : decode YX7_areBeside.2.1 8 = .ok (.aload_n 0, 1) := by decide +kernel
theorem dX7_areBeside_9 : decode YX7_areBeside.2.1 9 = .ok (.iload_n 1, 1) := by decide +kernel
theorem dX7_areBeside_10 : decode YX7_areBeside.2.1 10 = .ok (.invokevirtual 42, 3) := by decide +kernel
theorem dX7_areBeside_13 : decode YX7_areBeside.2.1 13 = .ok (.iload_n 2, 1) := by decide +kernel
theorem dX7_areBeside_14 : decode YX7_areBeside.2.1 14 = .ok (.invokestatic 46, 3) := by decide +kernel
theorem dX7_areBeside_17 : decode YX7_areBeside.2.1 17 = .ok (.ifCond .eq 7, 3) := by decide +kernel
theorem dX7_areBeside_20 : decode YX7_areBeside.2.1 20 = .ok (.iconst 1, 1) := by decide +kernel
theorem dX7_areBeside_21 : decode YX7_areBeside.2.1 21 = .ok (.goto 4, 3) := by decide +kernel
theorem dX7_areBeside_24 : decode YX7_areBeside.2.1 24 = .ok (.iconst 0, 1) := by decide +kernel
theorem dX7_areBeside_25 : decode YX7_areBeside.2.1 25 = .ok (.ireturn, 1) := by decide +kernel
theorem dX7_besideAny_0 : decode YX7_besideAny.2.1 0 = .ok (.iconst 0, 1) := by decide +kernel
theorem dX7_besideAny_1 : decode YX7_besideAny.2.1 1 = .ok (.istore_n 2, 1) := by decide +kernel
theorem dX7_besideAny_2 : decode YX7_besideAny.2.1 2 = .ok (.iconst 0, 1) := by decide +kernel
theorem dX7_besideAny_3 : decode YX7_besideAny.2.1 3 = .ok (.istore_n 3, 1) := by decide +kernel
theorem dX7_besideAny_4 : decode YX7_besideAny.2.1 4 = .ok (.iload_n 3, 1) := by decide +kernel
theorem dX7_besideAny_5 : decode YX7_besideAny.2.1 5 = .ok (.bipush 8, 2) := by decide +kernel
theorem dX7_besideAny_7 : decode YX7_besideAny.2.1 7 = .ok (.if_icmp .ge 26, 3) := by decide +kernel
theorem dX7_besideAny_10 : decode YX7_besideAny.2.1 10 = .ok (.iload_n 1, 1) := by decide +kernel
theorem dX7_besideAny_11 : decode YX7_besideAny.2.1 11 = .ok (.iload_n 3, 1) := by decide +kernel
theorem dX7_besideAny_12 : decode YX7_besideAny.2.1 12 = .ok (.invokestatic 46, 3) := by decide +kernel
theorem dX7_besideAny_15 : decode YX7_besideAny.2.1 15 = .ok (.ifCond .eq 12, 3) := by decide +kernel
theorem dX7_besideAny_18 : decode YX7_besideAny.2.1 18 = .ok (.iload_n 2, 1) := by decide +kernel
theorem dX7_besideAny_19 : decode YX7_besideAny.2.1 19 = .ok (.aload_n 0, 1) := by decide +kernel
theorem dX7_besideAny_20 : decode YX7_besideAny.2.1 20 = .ok (.getfield 18, 3) := by decide +kernel
theorem dX7_besideAny_23 : decode YX7_besideAny.2.1 23 = .ok (.iload_n 3, 1) := by decide +kernel
theorem dX7_besideAny_24 : decode YX7_besideAny.2.1 24 = .ok (.iaload, 1) := by decide +kernel
theorem dX7_besideAny_25 : decode YX7_besideAny.2.1 25 = .ok (.ior, 1) := by decide +kernel
theorem dX7_besideAny_26 : decode YX7_besideAny.2.1 26 = .ok (.istore_n 2, 1) := by decide +kernel
theorem dX7_besideAny_27 : decode YX7_besideAny.2.1 27 = .ok (.iinc 3 1, 3) := by decide +kernel
theorem dX7_besideAny_30 : decode YX7_besideAny.2.1 30 = .ok (.goto (-26), 3) := by decide +kernel
theorem dX7_besideAny_33 : decode YX7_besideAny.2.1 33 = .ok (.iload_n 2, 1) := by decide +kernel
theorem dX7_besideAny_34 : decode YX7_besideAny.2.1 34 = .ok (.ireturn, 1) := by decide +kernel
theorem dX7_besideOf_0 : decode YX7_besideOf.2.1 0 = .ok (.aload_n 0, 1) := by decide +kernel
theorem dX7_besideOf_1 : decode YX7_besideOf.2.1 1 = .ok (.iload_n 1, 1) := by decide +kernel
theorem dX7_besideOf_2 : decode YX7_besideOf.2.1 2 = .ok (.invokevirtual 35, 3) := by decide +kernel
theorem dX7_besideOf_5 : decode YX7_besideOf.2.1 5 = .ok (.ifCond .eq 12, 3) := by decide +kernel
theorem dX7_besideOf_8 : decode YX7_besideOf.2.1 8 = .ok (.aload_n 0, 1) := by decide +kernel
theorem dX7_besideOf_9 : decode YX7_besideOf.2.1 9 = .ok (.getfield 18, 3) := by decide +kernel
theorem dX7_besideOf_12 : decode YX7_besideOf.2.1 12 = .ok (.iload_n 1, 1) := by decide +kernel
theorem dX7_besideOf_13 : decode YX7_besideOf.2.1 13 = .ok (.iaload, 1) := by decide +kernel
theorem dX7_besideOf_14 : decode YX7_besideOf.2.1 14 = .ok (.goto 4, 3) := by decide +kernel
theorem dX7_besideOf_17 : decode YX7_besideOf.2.1 17 = .ok (.iconst 0, 1) := by decide +kernel
theorem dX7_besideOf_18 : decode YX7_besideOf.2.1 18 = .ok (.ireturn, 1) := by decide +kernel
theorem dX7_clear_0 : decode YX7_clear.2.1 0 = .ok (.aload_n 0, 1) := by decide +kernel
theorem dX7_clear_1 : decode YX7_clear.2.1 1 = .ok (.getfield 18, 3) := by decide +kernel
theorem dX7_clear_4 : decode YX7_clear.2.1 4 = .ok (.iconst 0, 1) := by decide +kernel
theorem dX7_clear_5 : decode YX7_clear.2.1 5 = .ok (.invokestatic 71, 3) := by decide +kernel
theorem dX7_clear_8 : decode YX7_clear.2.1 8 = .ok (.aload_n 0, 1) := by decide +kernel
theorem dX7_clear_9 : decode YX7_clear.2.1 9 = .ok (.iconst 0, 1) := by decide +kernel
theorem dX7_clear_10 : decode YX7_clear.2.1 10 = .ok (.putfield 25, 3) := by decide +kernel
theorem dX7_clear_13 : decode YX7_clear.2.1 13 = .ok (.aload_n 0, 1) := by decide +kernel
theorem dX7_clear_14 : decode YX7_clear.2.1 14 = .ok (.iconst 0, 1) := by decide +kernel
theorem dX7_clear_15 : decode YX7_clear.2.1 15 = .ok (.putfield 29, 3) := by decide +kernel
theorem dX7_clear_18 : decode YX7_clear.2.1 18 = .ok (.aload_n 0, 1) := by decide +kernel
theorem dX7_clear_19 : decode YX7_clear.2.1 19 = .ok (.iconst 0, 1) := by decide +kernel
theorem dX7_clear_20 : decode YX7_clear.2.1 20 = .ok (.putfield 32, 3) := by decide +kernel
theorem dX7_clear_23 : decode YX7_clear.2.1 23 = .ok (.return_, 1) := by decide +kernel
theorem dX7_copyFrom_0 : decode YX7_copyFrom.2.1 0 = .ok (.aload_n 1, 1) := by decide +kernel
theorem dX7_copyFrom_1 : decode YX7_copyFrom.2.1 1 = .ok (.getfield 9, 3) := by decide +kernel
theorem dX7_copyFrom_4 : decode YX7_copyFrom.2.1 4 = .ok (.iconst 0, 1) := by decide +kernel
theorem dX7_copyFrom_5 : decode YX7_copyFrom.2.1 5 = .ok (.aload_n 0, 1) := by decide +kernel
theorem dX7_copyFrom_6 : decode YX7_copyFrom.2.1 6 = .ok (.getfield 9, 3) := by decide +kernel
theorem dX7_copyFrom_9 : decode YX7_copyFrom.2.1 9 = .ok (.iconst 0, 1) := by decide +kernel
theorem dX7_copyFrom_10 : decode YX7_copyFrom.2.1 10 = .ok (.bipush 8, 2) := by decide +kernel
theorem dX7_copyFrom_12 : decode YX7_copyFrom.2.1 12 = .ok (.invokestatic 65, 3) := by decide +kernel
theorem dX7_copyFrom_15 : decode YX7_copyFrom.2.1 15 = .ok (.aload_n 1, 1) := by decide +kernel
theorem dX7_copyFrom_16 : decode YX7_copyFrom.2.1 16 = .ok (.getfield 15, 3) := by decide +kernel
theorem dX7_copyFrom_19 : decode YX7_copyFrom.2.1 19 = .ok (.iconst 0, 1) := by decide +kernel
theorem dX7_copyFrom_20 : decode YX7_copyFrom.2.1 20 = .ok (.aload_n 0, 1) := by decide +kernel
theorem dX7_copyFrom_21 : decode YX7_copyFrom.2.1 21 = .ok (.getfield 15, 3) := by decide +kernel
theorem dX7_copyFrom_24 : decode YX7_copyFrom.2.1 24 = .ok (.iconst 0, 1) := by decide +kernel
theorem dX7_copyFrom_25 : decode YX7_copyFrom.2.1 25 = .ok (.bipush 6, 2) := by decide +kernel
theorem dX7_copyFrom_27 : decode YX7_copyFrom.2.1 27 = .ok (.invokestatic 65, 3) := by decide +kernel
theorem dX7_copyFrom_30 : decode YX7_copyFrom.2.1 30 = .ok (.aload_n 1, 1) := by decide +kernel
theorem dX7_copyFrom_31 : decode YX7_copyFrom.2.1 31 = .ok (.getfield 18, 3) := by decide +kernel
theorem dX7_copyFrom_34 : decode YX7_copyFrom.2.1 34 = .ok (.iconst 0, 1) := by decide +kernel
theorem dX7_copyFrom_35 : decode YX7_copyFrom.2.1 35 = .ok (.aload_n 0, 1) := by decide +kernel
theorem dX7_copyFrom_36 : decode YX7_copyFrom.2.1 36 = .ok (.getfield 18, 3) := by decide +kernel
theorem dX7_copyFrom_39 : decode YX7_copyFrom.2.1 39 = .ok (.iconst 0, 1) := by decide +kernel
theorem dX7_copyFrom_40 : decode YX7_copyFrom.2.1 40 = .ok (.bipush 8, 2) := by decide +kernel
theorem dX7_copyFrom_42 : decode YX7_copyFrom.2.1 42 = .ok (.invokestatic 65, 3) := by decide +kernel
theorem dX7_copyFrom_45 : decode YX7_copyFrom.2.1 45 = .ok (.aload_n 1, 1) := by decide +kernel
theorem dX7_copyFrom_46 : decode YX7_copyFrom.2.1 46 = .ok (.getfield 22, 3) := by decide +kernel
theorem dX7_copyFrom_49 : decode YX7_copyFrom.2.1 49 = .ok (.iconst 0, 1) := by decide +kernel
theorem dX7_copyFrom_50 : decode YX7_copyFrom.2.1 50 = .ok (.aload_n 0, 1) := by decide +kernel
theorem dX7_copyFrom_51 : decode YX7_copyFrom.2.1 51 = .ok (.getfield 22, 3) := by decide +kernel
theorem dX7_copyFrom_54 : decode YX7_copyFrom.2.1 54 = .ok (.iconst 0, 1) := by decide +kernel
theorem dX7_copyFrom_55 : decode YX7_copyFrom.2.1 55 = .ok (.bipush 64, 2) := by decide +kernel
theorem dX7_copyFrom_57 : decode YX7_copyFrom.2.1 57 = .ok (.invokestatic 65, 3) := by decide +kernel
theorem dX7_copyFrom_60 : decode YX7_copyFrom.2.1 60 = .ok (.aload_n 0, 1) := by decide +kernel
theorem dX7_copyFrom_61 : decode YX7_copyFrom.2.1 61 = .ok (.aload_n 1, 1) := by decide +kernel
theorem dX7_copyFrom_62 : decode YX7_copyFrom.2.1 62 = .ok (.getfield 25, 3) := by decide +kernel
theorem dX7_copyFrom_65 : decode YX7_copyFrom.2.1 65 = .ok (.putfield 25, 3) := by decide +kernel
theorem dX7_copyFrom_68 : decode YX7_copyFrom.2.1 68 = .ok (.aload_n 0, 1) := by decide +kernel
theorem dX7_copyFrom_69 : decode YX7_copyFrom.2.1 69 = .ok (.aload_n 1, 1) := by decide +kernel
theorem dX7_copyFrom_70 : decode YX7_copyFrom.2.1 70 = .ok (.getfield 29, 3) := by decide +kernel
theorem dX7_copyFrom_73 : decode YX7_copyFrom.2.1 73 = .ok (.putfield 29, 3) := by decide +kernel
theorem dX7_copyFrom_76 : decode YX7_copyFrom.2.1 76 = .ok (.aload_n 0, 1) := by decide +kernel
theorem dX7_copyFrom_77 : decode YX7_copyFrom.2.1 77 = .ok (.aload_n 1, 1) := by decide +kernel
theorem dX7_copyFrom_78 : decode YX7_copyFrom.2.1 78 = .ok (.getfield 32, 3) := by decide +kernel
theorem dX7_copyFrom_81 : decode YX7_copyFrom.2.1 81 = .ok (.putfield 32, 3) := by decide +kernel
theorem dX7_copyFrom_84 : decode YX7_copyFrom.2.1 84 = .ok (.return_, 1) := by decide +kernel
theorem dX7_cornerNamed_0 : decode YX7_cornerNamed.2.1 0 = .ok (.iconst 0, 1) := by decide +kernel
theorem dX7_cornerNamed_1 : decode YX7_cornerNamed.2.1 1 = .ok (.istore_n 3, 1) := by decide +kernel
theorem dX7_cornerNamed_2 : decode YX7_cornerNamed.2.1 2 = .ok (.iload_n 3, 1) := by decide +kernel
theorem dX7_cornerNamed_3 : decode YX7_cornerNamed.2.1 3 = .ok (.aload_n 0, 1) := by decide +kernel
theorem dX7_cornerNamed_4 : decode YX7_cornerNamed.2.1 4 = .ok (.getfield 25, 3) := by decide +kernel
theorem dX7_cornerNamed_7 : decode YX7_cornerNamed.2.1 7 = .ok (.if_icmp .ge 28, 3) := by decide +kernel
theorem dX7_cornerNamed_10 : decode YX7_cornerNamed.2.1 10 = .ok (.iload_n 3, 1) := by decide +kernel
theorem dX7_cornerNamed_11 : decode YX7_cornerNamed.2.1 11 = .ok (.bipush 8, 2) := by decide +kernel
theorem dX7_cornerNamed_13 : decode YX7_cornerNamed.2.1 13 = .ok (.if_icmp .ge 22, 3) := by decide +kernel
theorem dX7_cornerNamed_16 : decode YX7_cornerNamed.2.1 16 = .ok (.aload_n 0, 1) := by decide +kernel
theorem dX7_cornerNamed_17 : decode YX7_cornerNamed.2.1 17 = .ok (.getfield 9, 3) := by decide +kernel
theorem dX7_cornerNamed_20 : decode YX7_cornerNamed.2.1 20 = .ok (.iload_n 3, 1) := by decide +kernel
theorem dX7_cornerNamed_21 : decode YX7_cornerNamed.2.1 21 = .ok (.laload, 1) := by decide +kernel
theorem dX7_cornerNamed_22 : decode YX7_cornerNamed.2.1 22 = .ok (.lload_n 1, 1) := by decide +kernel
theorem dX7_cornerNamed_23 : decode YX7_cornerNamed.2.1 23 = .ok (.lcmp, 1) := by decide +kernel
theorem dX7_cornerNamed_24 : decode YX7_cornerNamed.2.1 24 = .ok (.ifCond .ne 5, 3) := by decide +kernel
theorem dX7_cornerNamed_27 : decode YX7_cornerNamed.2.1 27 = .ok (.iload_n 3, 1) := by decide +kernel
theorem dX7_cornerNamed_28 : decode YX7_cornerNamed.2.1 28 = .ok (.ireturn, 1) := by decide +kernel
theorem dX7_cornerNamed_29 : decode YX7_cornerNamed.2.1 29 = .ok (.iinc 3 1, 3) := by decide +kernel
theorem dX7_cornerNamed_32 : decode YX7_cornerNamed.2.1 32 = .ok (.goto (-30), 3) := by decide +kernel
theorem dX7_cornerNamed_35 : decode YX7_cornerNamed.2.1 35 = .ok (.iconst (-1), 1) := by decide +kernel
theorem dX7_cornerNamed_36 : decode YX7_cornerNamed.2.1 36 = .ok (.ireturn, 1) := by decide +kernel
theorem dX7_corners_0 : decode YX7_corners.2.1 0 = .ok (.aload_n 0, 1) := by decide +kernel
theorem dX7_corners_1 : decode YX7_corners.2.1 1 = .ok (.getfield 25, 3) := by decide +kernel
theorem dX7_corners_4 : decode YX7_corners.2.1 4 = .ok (.ireturn, 1) := by decide +kernel
theorem dX7_farFrom_0 : decode YX7_farFrom.2.1 0 = .ok (.aload_n 0, 1) := by decide +kernel
theorem dX7_farFrom_1 : decode YX7_farFrom.2.1 1 = .ok (.iload_n 1, 1) := by decide +kernel
theorem dX7_farFrom_2 : decode YX7_farFrom.2.1 2 = .ok (.invokevirtual 35, 3) := by decide +kernel
theorem dX7_farFrom_5 : decode YX7_farFrom.2.1 5 = .ok (.ifCond .eq 25, 3) := by decide +kernel
theorem dX7_farFrom_8 : decode YX7_farFrom.2.1 8 = .ok (.aload_n 0, 1) := by decide +kernel
theorem dX7_farFrom_9 : decode YX7_farFrom.2.1 9 = .ok (.iload_n 2, 1) := by decide +kernel
theorem dX7_farFrom_10 : decode YX7_farFrom.2.1 10 = .ok (.invokevirtual 35, 3) := by decide +kernel
theorem dX7_farFrom_13 : decode YX7_farFrom.2.1 13 = .ok (.ifCond .eq 17, 3) := by decide +kernel
theorem dX7_farFrom_16 : decode YX7_farFrom.2.1 16 = .ok (.aload_n 0, 1) := by decide +kernel
theorem dX7_farFrom_17 : decode YX7_farFrom.2.1 17 = .ok (.getfield 22, 3) := by decide +kernel
theorem dX7_farFrom_20 : decode YX7_farFrom.2.1 20 = .ok (.iload_n 1, 1) := by decide +kernel
theorem dX7_farFrom_21 : decode YX7_farFrom.2.1 21 = .ok (.bipush 8, 2) := by decide +kernel
theorem dX7_farFrom_23 : decode YX7_farFrom.2.1 23 = .ok (.imul, 1) := by decide +kernel
theorem dX7_farFrom_24 : decode YX7_farFrom.2.1 24 = .ok (.iload_n 2, 1) := by decide +kernel
theorem dX7_farFrom_25 : decode YX7_farFrom.2.1 25 = .ok (.iadd, 1) := by decide +kernel
theorem dX7_farFrom_26 : decode YX7_farFrom.2.1 26 = .ok (.iaload, 1) := by decide +kernel
theorem dX7_farFrom_27 : decode YX7_farFrom.2.1 27 = .ok (.goto 4, 3) := by decide +kernel
theorem dX7_farFrom_30 : decode YX7_farFrom.2.1 30 = .ok (.iconst (-1), 1) := by decide +kernel
theorem dX7_farFrom_31 : decode YX7_farFrom.2.1 31 = .ok (.ireturn, 1) := by decide +kernel
theorem dX7_hasCorner_0 : decode YX7_hasCorner.2.1 0 = .ok (.iload_n 1, 1) := by decide +kernel
theorem dX7_hasCorner_1 : decode YX7_hasCorner.2.1 1 = .ok (.ifCond .lt 21, 3) := by decide +kernel
theorem dX7_hasCorner_4 : decode YX7_hasCorner.2.1 4 = .ok (.iload_n 1, 1) := by decide +kernel
theorem dX7_hasCorner_5 : decode YX7_hasCorner.2.1 5 = .ok (.aload_n 0, 1) := by decide +kernel
theorem dX7_hasCorner_6 : decode YX7_hasCorner.2.1 6 = .ok (.getfield 25, 3) := by decide +kernel
theorem dX7_hasCorner_9 : decode YX7_hasCorner.2.1 9 = .ok (.if_icmp .ge 13, 3) := by decide +kernel
theorem dX7_hasCorner_12 : decode YX7_hasCorner.2.1 12 = .ok (.iload_n 1, 1) := by decide +kernel
theorem dX7_hasCorner_13 : decode YX7_hasCorner.2.1 13 = .ok (.bipush 8, 2) := by decide +kernel
theorem dX7_hasCorner_15 : decode YX7_hasCorner.2.1 15 = .ok (.if_icmp .ge 7, 3) := by decide +kernel
theorem dX7_hasCorner_18 : decode YX7_hasCorner.2.1 18 = .ok (.iconst 1, 1) := by decide +kernel
theorem dX7_hasCorner_19 : decode YX7_hasCorner.2.1 19 = .ok (.goto 4, 3) := by decide +kernel
theorem dX7_hasCorner_22 : decode YX7_hasCorner.2.1 22 = .ok (.iconst 0, 1) := by decide +kernel
theorem dX7_hasCorner_23 : decode YX7_hasCorner.2.1 23 = .ok (.ireturn, 1) := by decide +kernel
theorem dX7_hasPerson_0 : decode YX7_hasPerson.2.1 0 = .ok (.iload_n 1, 1) := by decide +kernel
theorem dX7_hasPerson_1 : decode YX7_hasPerson.2.1 1 = .ok (.ifCond .lt 21, 3) := by decide +kernel
theorem dX7_hasPerson_4 : decode YX7_hasPerson.2.1 4 = .ok (.iload_n 1, 1) := by decide +kernel
theorem dX7_hasPerson_5 : decode YX7_hasPerson.2.1 5 = .ok (.aload_n 0, 1) := by decide +kernel
theorem dX7_hasPerson_6 : decode YX7_hasPerson.2.1 6 = .ok (.getfield 32, 3) := by decide +kernel
theorem dX7_hasPerson_9 : decode YX7_hasPerson.2.1 9 = .ok (.if_icmp .ge 13, 3) := by decide +kernel
theorem dX7_hasPerson_12 : decode YX7_hasPerson.2.1 12 = .ok (.iload_n 1, 1) := by decide +kernel
theorem dX7_hasPerson_13 : decode YX7_hasPerson.2.1 13 = .ok (.bipush 6, 2) := by decide +kernel
theorem dX7_hasPerson_15 : decode YX7_hasPerson.2.1 15 = .ok (.if_icmp .ge 7, 3) := by decide +kernel
theorem dX7_hasPerson_18 : decode YX7_hasPerson.2.1 18 = .ok (.iconst 1, 1) := by decide +kernel
theorem dX7_hasPerson_19 : decode YX7_hasPerson.2.1 19 = .ok (.goto 4, 3) := by decide +kernel
theorem dX7_hasPerson_22 : decode YX7_hasPerson.2.1 22 = .ok (.iconst 0, 1) := by decide +kernel
