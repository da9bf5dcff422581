def YX11_commonDivisor : zY := (⟨"ProperFollow", "commonDivisor", "(II)I"⟩, prog_1_method_48_code, 3, (some .int))
def YX11_mean : zY := (⟨"ProperFollow", "mean", "(I)I"⟩, prog_1_method_30_code, 5, (some .int))
def YX11_person : zY := (⟨"ProperFollow", "person", "(II)I"⟩, prog_1_method_6_code, 3, (some .int))
def YX1_lastOfRow : zY := (⟨"ProperFollow$Day", "lastOfRow", "(I)I"⟩, prog_3_method_27_code, 6, (some .int))
def YX1_minutesBehind : zY := (⟨"ProperFollow$Day", "minutesBehind", "(I)I"⟩, prog_3_method_16_code, 2, (some .int))
theorem lkX11_commonDivisor : zlkS YX11_commonDivisor 2 := ⟨⟨wi_X11, zWS_in (List.mem_of_getElem? (i := 1481) (by decide +kernel)) (by decide +kernel), by decide, by decide, by decide +kernel, by decide⟩, zWS_in (List.mem_of_getElem? (i := 1480) (by decide +kernel)) (by decide +kernel)⟩
theorem lkX1_lastOfRow : zlkV YX1_lastOfRow 1 := ⟨⟨wi_X1, zWS_in (List.mem_of_getElem? (i := 1469) (by decide +kernel)) (by decide +kernel), by decide, by decide, by decide +kernel, by decide⟩, zWS_in (List.mem_of_getElem? (i := 1467) (by decide +kernel)) (by decide +kernel), zWS_in (List.mem_of_getElem? (i := 1468) (by decide +kernel)) (by decide +kernel)⟩
theorem lkX1_minutesBehind : zlkV YX1_minutesBehind 1 := ⟨⟨wi_X1, zWS_in (List.mem_of_getElem? (i := 1465) (by decide +kernel)) (by decide +kernel), by decide, by decide, by decide +kernel, by decide⟩, zWS_in (List.mem_of_getElem? (i := 1463) (by decide +kernel)) (by decide +kernel), zWS_in (List.mem_of_getElem? (i := 1464) (by decide +kernel)) (by decide +kernel)⟩
theorem mlX11_170 : Cond.methodLink "ProperFollow" 170 ⟨"ProperFollow$Day", "bunsOf", "(I)I"⟩ ∈ zWS := zWS_in (List.mem_of_getElem? (i := 1461) (by decide +kernel)) (by decide +kernel)
theorem mlX11_176 : Cond.methodLink "ProperFollow" 176 ⟨"ProperFollow$Day", "minutesBehind", "(I)I"⟩ ∈ zWS := zWS_in (List.mem_of_getElem? (i := 1462) (by decide +kernel)) (by decide +kernel)
theorem mlX11_185 : Cond.methodLink "ProperFollow" 185 ⟨"ProperFollow$Day", "lastOfRow", "(I)I"⟩ ∈ zWS := zWS_in (List.mem_of_getElem? (i := 1466) (by decide +kernel)) (by decide +kernel)
theorem mlX11_313 : Cond.methodLink "ProperFollow" 313 ⟨"ProperFollow", "commonDivisor", "(II)I"⟩ ∈ zWS := zWS_in (List.mem_of_getElem? (i := 1479) (by decide +kernel)) (by decide +kernel)
theorem nlX1_84 : ("ProperFollow$Day", 84, (⟨"ProperFollow", "hasBit", "(II)Z"⟩ : MethodName), "ProperFollow") ∈ zNW := List.mem_of_getElem? (i := 11) (by decide +kernel)
theorem dX11_commonDivisor_0 : decode YX11_commonDivisor.2.1 0 = .ok (.bipush 6, 2) := by decide +kernel
theorem dX11_commonDivisor_2 : decode YX11_commonDivisor.2.1 2 = .ok (.istore_n 2, 1) := by decide +kernel
theorem dX11_commonDivisor_3 : decode YX11_commonDivisor.2.1 3 = .ok (.iload_n 2, 1) := by decide +kernel
theorem dX11_commonDivisor_4 : decode YX11_commonDivisor.2.1 4 = .ok (.iconst 1, 1) := by decide +kernel
theorem dX11_commonDivisor_5 : decode YX11_commonDivisor.2.1 5 = .ok (.if_icmp .le 23, 3) := by decide +kernel
theorem dX11_commonDivisor_8 : decode YX11_commonDivisor.2.1 8 = .ok (.iload_n 0, 1) := by decide +kernel
theorem dX11_commonDivisor_9 : decode YX11_commonDivisor.2.1 9 = .ok (.iload_n 2, 1) := by decide +kernel
theorem dX11_commonDivisor_10 : decode YX11_commonDivisor.2.1 10 = .ok (.irem, 1) := by decide +kernel
theorem dX11_commonDivisor_11 : decode YX11_commonDivisor.2.1 11 = .ok (.ifCond .ne 11, 3) := by decide +kernel
theorem dX11_commonDivisor_14 : decode YX11_commonDivisor.2.1 14 = .ok (.iload_n 1, 1) := by decide +kernel
theorem dX11_commonDivisor_15 : decode YX11_commonDivisor.2.1 15 = .ok (.iload_n 2, 1) := by decide +kernel
theorem dX11_commonDivisor_16 : decode YX11_commonDivisor.2.1 16 = .ok (.irem, 1) := by decide +kernel
theorem dX11_commonDivisor_17 : decode YX11_commonDivisor.2.1 17 = .ok (.ifCond .ne 5, 3) := by decide +kernel
theorem dX11_commonDivisor_20 : decode YX11_commonDivisor.2.1 20 = .ok (.iload_n 2, 1) := by decide +kernel
theorem dX11_commonDivisor_21 : decode YX11_commonDivisor.2.1 21 = .ok (.ireturn, 1) := by decide +kernel
theorem dX11_commonDivisor_22 : decode YX11_commonDivisor.2.1 22 = .ok (.iinc 2 (-1), 3) := by decide +kernel
theorem dX11_commonDivisor_25 : decode YX11_commonDivisor.2.1 25 = .ok (.goto (-22), 3) := by decide +kernel
theorem dX11_commonDivisor_28 : decode YX11_commonDivisor.2.1 28 = .ok (.iconst 1, 1) := by decide +kernel
theorem dX11_commonDivisor_29 : decode YX11_commonDivisor.2.1 29 = .ok (.ireturn, 1) := by decide +kernel
theorem dX11_mean_0 : decode YX11_mean.2.1 0 = .ok (.aload_n 0, 1) := by decide +kernel
theorem dX11_mean_1 : decode YX11_mean.2.1 1 = .ok (.getfield 28, 3) := by decide +kernel
theorem dX11_mean_4 : decode YX11_mean.2.1 4 = .ok (.invokevirtual 308, 3) := by decide +kernel
theorem dX11_mean_7 : decode YX11_mean.2.1 7 = .ok (.istore_n 2, 1) := by decide +kernel
theorem dX11_mean_8 : decode YX11_mean.2.1 8 = .ok (.iload_n 2, 1) := by decide +kernel
theorem dX11_mean_9 : decode YX11_mean.2.1 9 = .ok (.iconst 1, 1) := by decide +kernel
theorem dX11_mean_10 : decode YX11_mean.2.1 10 = .ok (.if_icmp .lt 12, 3) := by decide +kernel
theorem dX11_mean_13 : decode YX11_mean.2.1 13 = .ok (.iload_n 1, 1) := by decide +kernel
theorem dX11_mean_14 : decode YX11_mean.2.1 14 = .ok (.ifCond .lt 8, 3) := by decide +kernel
theorem dX11_mean_17 : decode YX11_mean.2.1 17 = .ok (.iload_n 1, 1) := by decide +kernel
theorem dX11_mean_18 : decode YX11_mean.2.1 18 = .ok (.iconst 1, 1) := by decide +kernel
theorem dX11_mean_19 : decode YX11_mean.2.1 19 = .ok (.if_icmp .le 14, 3) := by decide +kernel
theorem dX11_mean_22 : decode YX11_mean.2.1 22 = .ok (.new 159, 3) := by decide +kernel
theorem dX11_mean_33 : decode YX11_mean.2.1 33 = .ok (.aload_n 0, 1) := by decide +kernel
theorem dX11_mean_34 : decode YX11_mean.2.1 34 = .ok (.getfield 38, 3) := by decide +kernel
theorem dX11_mean_37 : decode YX11_mean.2.1 37 = .ok (.invokevirtual 227, 3) := by decide +kernel
theorem dX11_mean_40 : decode YX11_mean.2.1 40 = .ok (.istore_n 3, 1) := by decide +kernel
theorem dX11_mean_41 : decode YX11_mean.2.1 41 = .ok (.iload_n 3, 1) := by decide +kernel
theorem dX11_mean_42 : decode YX11_mean.2.1 42 = .ok (.iload_n 2, 1) := by decide +kernel
theorem dX11_mean_43 : decode YX11_mean.2.1 43 = .ok (.invokestatic 313, 3) := by decide +kernel
theorem dX11_mean_46 : decode YX11_mean.2.1 46 = .ok (.istore 4, 2) := by decide +kernel
theorem dX11_mean_48 : decode YX11_mean.2.1 48 = .ok (.iload 4, 2) := by decide +kernel
theorem dX11_mean_50 : decode YX11_mean.2.1 50 = .ok (.iconst 1, 1) := by decide +kernel
theorem dX11_mean_51 : decode YX11_mean.2.1 51 = .ok (.if_icmp .ge 5, 3) := by decide +kernel
theorem dX11_mean_54 : decode YX11_mean.2.1 54 = .ok (.iconst (-1), 1) := by decide +kernel
theorem dX11_mean_55 : decode YX11_mean.2.1 55 = .ok (.ireturn, 1) := by decide +kernel
theorem dX11_mean_56 : decode YX11_mean.2.1 56 = .ok (.iload_n 1, 1) := by decide +kernel
theorem dX11_mean_57 : decode YX11_mean.2.1 57 = .ok (.ifCond .ne 10, 3) := by decide +kernel
theorem dX11_mean_60 : decode YX11_mean.2.1 60 = .ok (.iload_n 3, 1) := by decide +kernel
theorem dX11_mean_61 : decode YX11_mean.2.1 61 = .ok (.iload 4, 2) := by decide +kernel
theorem dX11_mean_63 : decode YX11_mean.2.1 63 = .ok (.idiv, 1) := by decide +kernel
theorem dX11_mean_64 : decode YX11_mean.2.1 64 = .ok (.goto 7, 3) := by decide +kernel
theorem dX11_mean_67 : decode YX11_mean.2.1 67 = .ok (.iload_n 2, 1) := by decide +kernel
theorem dX11_mean_68 : decode YX11_mean.2.1 68 = .ok (.iload 4, 2) := by decide +kernel
theorem dX11_mean_70 : decode YX11_mean.2.1 70 = .ok (.idiv, 1) := by decide +kernel
theorem dX11_mean_71 : decode YX11_mean.2.1 71 = .ok (.ireturn, 1) := by decide +kernel
theorem dX11_person_0 : decode YX11_person.2.1 0 = .ok (.aload_n 0, 1) := by decide +kernel
theorem dX11_person_1 : decode YX11_person.2.1 1 = .ok (.getfield 28, 3) := by decide +kernel
theorem dX11_person_4 : decode YX11_person.2.1 4 = .ok (.iload_n 1, 1) := by decide +kernel
theorem dX11_person_5 : decode YX11_person.2.1 5 = .ok (.invokevirtual 156, 3) := by decide +kernel
theorem dX11_person_8 : decode YX11_person.2.1 8 = .ok (.ifCond .eq 13, 3) := by decide +kernel
theorem dX11_person_11 : decode YX11_person.2.1 11 = .ok (.iload_n 2, 1) := by decide +kernel
theorem dX11_person_12 : decode YX11_person.2.1 12 = .ok (.ifCond .lt 9, 3) := by decide +kernel
theorem dX11_person_15 : decode YX11_person.2.1 15 = .ok (.iload_n 2, 1) := by decide +kernel
theorem dX11_person_16 : decode YX11_person.2.1 16 = .ok (.bipush 6, 2) := by decide +kernel
theorem dX11_person_18 : decode YX11_person.2.1 18 = .ok (.if_icmp .le 13, 3) := by decide +kernel
theorem dX11_person_21 : decode YX11_person.2.1 21 = .ok (.new 159, 3) := by decide +kernel
theorem dX11_person_31 : decode YX11_person.2.1 31 = .ok (.iload_n 2, 1) := by decide +kernel
theorem dX11_person_32 : decode YX11_person.2.1 32 = .ok (.tableswitch 94 0 5 #[40, 49, 58, 67, 76, 85], 40) := by decide +kernel
theorem dX11_person_72 : decode YX11_person.2.1 72 = .ok (.aload_n 0, 1) := by decide +kernel
theorem dX11_person_73 : decode YX11_person.2.1 73 = .ok (.getfield 38, 3) := by decide +kernel
theorem dX11_person_76 : decode YX11_person.2.1 76 = .ok (.iload_n 1, 1) := by decide +kernel
theorem dX11_person_77 : decode YX11_person.2.1 77 = .ok (.invokevirtual 166, 3) := by decide +kernel
theorem dX11_person_80 : decode YX11_person.2.1 80 = .ok (.ireturn, 1) := by decide +kernel
theorem dX11_person_81 : decode YX11_person.2.1 81 = .ok (.aload_n 0, 1) := by decide +kernel
theorem dX11_person_82 : decode YX11_person.2.1 82 = .ok (.getfield 38, 3) := by decide +kernel
theorem dX11_person_85 : decode YX11_person.2.1 85 = .ok (.iload_n 1, 1) := by decide +kernel
theorem dX11_person_86 : decode YX11_person.2.1 86 = .ok (.invokevirtual 170, 3) := by decide +kernel
theorem dX11_person_89 : decode YX11_person.2.1 89 = .ok (.ireturn, 1) := by decide +kernel
theorem dX11_person_90 : decode YX11_person.2.1 90 = .ok (.aload_n 0, 1) := by decide +kernel
theorem dX11_person_91 : decode YX11_person.2.1 91 = .ok (.getfield 38, 3) := by decide +kernel
theorem dX11_person_94 : decode YX11_person.2.1 94 = .ok (.iload_n 1, 1) := by decide +kernel
theorem dX11_person_95 : decode YX11_person.2.1 95 = .ok (.invokevirtual 173, 3) := by decide +kernel
theorem dX11_person_98 : decode YX11_person.2.1 98 = .ok (.ireturn, 1) := by decide +kernel
theorem dX11_person_99 : decode YX11_person.2.1 99 = .ok (.aload_n 0, 1) := by decide +kernel
theorem dX11_person_100 : decode YX11_person.2.1 100 = .ok (.getfield 38, 3) := by decide +kernel
theorem dX11_person_103 : decode YX11_person.2.1 103 = .ok (.iload_n 1, 1) := by decide +kernel
theorem dX11_person_104 : decode YX11_person.2.1 104 = .ok (.invokevirtual 176, 3) := by decide +kernel
theorem dX11_person_107 : decode YX11_person.2.1 107 = .ok (.ireturn, 1) := by decide +kernel
theorem dX11_person_108 : decode YX11_person.2.1 108 = .ok (.aload_n 0, 1) := by decide +kernel
theorem dX11_person_109 : decode YX11_person.2.1 109 = .ok (.getfield 38, 3) := by decide +kernel
theorem dX11_person_112 : decode YX11_person.2.1 112 = .ok (.iload_n 1, 1) := by decide +kernel
theorem dX11_person_113 : decode YX11_person.2.1 113 = .ok (.invokevirtual 179, 3) := by decide +kernel
theorem dX11_person_116 : decode YX11_person.2.1 116 = .ok (.ireturn, 1) := by decide +kernel
theorem dX11_person_117 : decode YX11_person.2.1 117 = .ok (.aload_n 0, 1) := by decide +kernel
theorem dX11_person_118 : decode YX11_person.2.1 118 = .ok (.getfield 38, 3) := by decide +kernel
theorem dX11_person_121 : decode YX11_person.2.1 121 = .ok (.iload_n 1, 1) := by decide +kernel
theorem dX11_person_122 : decode YX11_person.2.1 122 = .ok (.invokevirtual 182, 3) := by decide +kernel
theorem dX11_person_125 : decode YX11_person.2.1 125 = .ok (.ireturn, 1) := by decide +kernel
theorem dX11_person_126 : decode YX11_person.2.1 126 = .ok (.aload_n 0, 1) := by decide +kernel
theorem dX11_person_127 : decode YX11_person.2.1 127 = .ok (.getfield 38, 3) := by decide +kernel
theorem dX11_person_130 : decode YX11_person.2.1 130 = .ok (.iload_n 1, 1) := by decide +kernel
theorem dX11_person_131 : decode YX11_person.2.1 131 = .ok (.invokevirtual 185, 3) := by decide +kernel
theorem dX11_person_134 : decode YX11_person.2.1 134 = .ok (.ireturn, 1) := by decide +kernel
theorem dX1_lastOfRow_0 : decode YX1_lastOfRow.2.1 0 = .ok (.iconst 1, 1) := by decide +kernel
theorem dX1_lastOfRow_1 : decode YX1_lastOfRow.2.1 1 = .ok (.iload_n 1, 1) := by decide +kernel
theorem dX1_lastOfRow_2 : decode YX1_lastOfRow.2.1 2 = .ok (.ishl, 1) := by decide +kernel
theorem dX1_lastOfRow_3 : decode YX1_lastOfRow.2.1 3 = .ok (.istore_n 2, 1) := by decide +kernel
theorem dX1_lastOfRow_4 : decode YX1_lastOfRow.2.1 4 = .ok (.iload_n 1, 1) := by decide +kernel
theorem dX1_lastOfRow_5 : decode YX1_lastOfRow.2.1 5 = .ok (.istore_n 3, 1) := by decide +kernel
theorem dX1_lastOfRow_6 : decode YX1_lastOfRow.2.1 6 = .ok (.iconst 0, 1) := by decide +kernel
theorem dX1_lastOfRow_7 : decode YX1_lastOfRow.2.1 7 = .ok (.istore 4, 2) := by decide +kernel
theorem dX1_lastOfRow_9 : decode YX1_lastOfRow.2.1 9 = .ok (.iload 4, 2) := by decide +kernel
theorem dX1_lastOfRow_11 : decode YX1_lastOfRow.2.1 11 = .ok (.bipush 6, 2) := by decide +kernel
theorem dX1_lastOfRow_13 : decode YX1_lastOfRow.2.1 13 = .ok (.if_icmp .ge 44, 3) := by decide +kernel
theorem dX1_lastOfRow_16 : decode YX1_lastOfRow.2.1 16 = .ok (.aload_n 0, 1) := by decide +kernel
theorem dX1_lastOfRow_17 : decode YX1_lastOfRow.2.1 17 = .ok (.iload_n 3, 1) := by decide +kernel
theorem dX1_lastOfRow_18 : decode YX1_lastOfRow.2.1 18 = .ok (.invokevirtual 69, 3) := by decide +kernel
theorem dX1_lastOfRow_21 : decode YX1_lastOfRow.2.1 21 = .ok (.istore 5, 2) := by decide +kernel
theorem dX1_lastOfRow_23 : decode YX1_lastOfRow.2.1 23 = .ok (.iload 5, 2) := by decide +kernel
theorem dX1_lastOfRow_25 : decode YX1_lastOfRow.2.1 25 = .ok (.iconst (-1), 1) := by decide +kernel
theorem dX1_lastOfRow_26 : decode YX1_lastOfRow.2.1 26 = .ok (.if_icmp .eq 31, 3) := by decide +kernel
theorem dX1_lastOfRow_29 : decode YX1_lastOfRow.2.1 29 = .ok (.iload_n 2, 1) := by decide +kernel
theorem dX1_lastOfRow_30 : decode YX1_lastOfRow.2.1 30 = .ok (.iload 5, 2) := by decide +kernel
theorem dX1_lastOfRow_32 : decode YX1_lastOfRow.2.1 32 = .ok (.invokestatic 84, 3) := by decide +kernel
theorem dX1_lastOfRow_35 : decode YX1_lastOfRow.2.1 35 = .ok (.ifCond .eq 6, 3) := by decide +kernel
theorem dX1_lastOfRow_38 : decode YX1_lastOfRow.2.1 38 = .ok (.goto 19, 3) := by decide +kernel
theorem dX1_lastOfRow_41 : decode YX1_lastOfRow.2.1 41 = .ok (.iload_n 2, 1) := by decide +kernel
theorem dX1_lastOfRow_42 : decode YX1_lastOfRow.2.1 42 = .ok (.iconst 1, 1) := by decide +kernel
theorem dX1_lastOfRow_43 : decode YX1_lastOfRow.2.1 43 = .ok (.iload 5, 2) := by decide +kernel
theorem dX1_lastOfRow_45 : decode YX1_lastOfRow.2.1 45 = .ok (.ishl, 1) := by decide +kernel
theorem dX1_lastOfRow_46 : decode YX1_lastOfRow.2.1 46 = .ok (.ior, 1) := by decide +kernel
theorem dX1_lastOfRow_47 : decode YX1_lastOfRow.2.1 47 = .ok (.istore_n 2, 1) := by decide +kernel
theorem dX1_lastOfRow_48 : decode YX1_lastOfRow.2.1 48 = .ok (.iload 5, 2) := by decide +kernel
theorem dX1_lastOfRow_50 : decode YX1_lastOfRow.2.1 50 = .ok (.istore_n 3, 1) := by decide +kernel
theorem dX1_lastOfRow_51 : decode YX1_lastOfRow.2.1 51 = .ok (.iinc 4 1, 3) := by decide +kernel
theorem dX1_lastOfRow_54 : decode YX1_lastOfRow.2.1 54 = .ok (.goto (-45), 3) := by decide +kernel
theorem dX1_lastOfRow_57 : decode YX1_lastOfRow.2.1 57 = .ok (.iload_n 3, 1) := by decide +kernel
theorem dX1_lastOfRow_58 : decode YX1_lastOfRow.2.1 58 = .ok (.ireturn, 1) := by decide +kernel
theorem dX1_minutesBehind_0 : decode YX1_minutesBehind.2.1 0 = .ok (.iload_n 1, 1) := by decide +kernel
theorem dX1_minutesBehind_1 : decode YX1_minutesBehind.2.1 1 = .ok (.invokestatic 58, 3) := by decide +kernel
theorem dX1_minutesBehind_4 : decode YX1_minutesBehind.2.1 4 = .ok (.ifCond .eq 12, 3) := by decide +kernel
theorem dX1_minutesBehind_7 : decode YX1_minutesBehind.2.1 7 = .ok (.aload_n 0, 1) := by decide +kernel
theorem dX1_minutesBehind_8 : decode YX1_minutesBehind.2.1 8 = .ok (.getfield 21, 3) := by decide +kernel
theorem dX1_minutesBehind_11 : decode YX1_minutesBehind.2.1 11 = .ok (.iload_n 1, 1) := by decide +kernel
theorem dX1_minutesBehind_12 : decode YX1_minutesBehind.2.1 12 = .ok (.iaload, 1) := by decide +kernel
theorem dX1_minutesBehind_13 : decode YX1_minutesBehind.2.1 13 = .ok (.goto 4, 3) := by decide +kernel
theorem dX1_minutesBehind_16 : decode YX1_minutesBehind.2.1 16 = .ok (.iconst (-1), 1) := by decide +kernel
theorem dX1_minutesBehind_17 : decode YX1_minutesBehind.2.1 17 = .ok (.ireturn, 1) := by decide +kernel
