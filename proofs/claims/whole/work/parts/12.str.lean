def YJ0_charAt_5068e : zY := (⟨"java/lang/String", "charAt", "(I)C"⟩, prog_22_method_56_code, 2, (some .char))
def YJ0_checkIndex_df160 : zY := (⟨"java/lang/String", "checkIndex", "(II)V"⟩, prog_22_method_155_code, 2, none)
def YJ0_coder_7d493 : zY := (⟨"java/lang/String", "coder", "()B"⟩, prog_22_method_152_code, 1, (some .byte))
def YJ0_isLatin1_aae02 : zY := (⟨"java/lang/String", "isLatin1", "()Z"⟩, prog_22_method_154_code, 1, (some .boolean))
def YJ0_length_8abf5 : zY := (⟨"java/lang/String", "length", "()I"⟩, prog_22_method_54_code, 1, (some .int))
def YJ1_charAt_3b067 : zY := (⟨"java/lang/StringLatin1", "charAt", "([BI)C"⟩, prog_23_method_2_code, 2, (some .char))
def YJ3_checkIndex_8e157 : zY := (⟨"jdk/internal/util/Preconditions", "checkIndex", "(IILjava/util/function/BiFunction;)I"⟩, prog_31_method_11_code, 3, (some .int))
def YX11_line : zY := (⟨"ProperFollow", "line", "(I)I"⟩, prog_1_method_31_code, 2, (some .int))
def YX5_addDigit : zY := (⟨"ProperFollow$Line", "addDigit", "(I)V"⟩, prog_7_method_7_code, 2, none)
def YX5_addText : zY := (⟨"ProperFollow$Line", "addText", "(Ljava/lang/String;)V"⟩, prog_7_method_6_code, 3, none)
def YX5_length : zY := (⟨"ProperFollow$Line", "length", "()I"⟩, prog_7_method_2_code, 1, (some .int))
def YX7_cornerName : zY := (⟨"ProperFollow$Plan", "cornerName", "(I)J"⟩, prog_9_method_7_code, 2, (some .long))
theorem wi_J0 : Cond.initialized "java/lang/String" ∈ zWS := zWS_in (List.mem_of_getElem? (i := 118) (by decide +kernel)) (by decide +kernel)
theorem wi_J1 : Cond.initialized "java/lang/StringLatin1" ∈ zWS := zWS_in (List.mem_of_getElem? (i := 119) (by decide +kernel)) (by decide +kernel)
theorem wi_J3 : Cond.initialized "jdk/internal/util/Preconditions" ∈ zWS := zWS_in (List.mem_of_getElem? (i := 120) (by decide +kernel)) (by decide +kernel)
theorem lkJ0_charAt_5068e : zlkV YJ0_charAt_5068e 1 := ⟨⟨wi_J0, zWS_in (List.mem_of_getElem? (i := 185) (by decide +kernel)) (by decide +kernel), by decide, by decide, by decide +kernel, by decide⟩, zWS_in (List.mem_of_getElem? (i := 183) (by decide +kernel)) (by decide +kernel), zWS_in (List.mem_of_getElem? (i := 184) (by decide +kernel)) (by decide +kernel)⟩
theorem lkJ0_checkIndex_df160 : zlkS YJ0_checkIndex_df160 2 := ⟨⟨wi_J0, zWS_in (List.mem_of_getElem? (i := 195) (by decide +kernel)) (by decide +kernel), by decide, by decide, by decide +kernel, by decide⟩, zWS_in (List.mem_of_getElem? (i := 194) (by decide +kernel)) (by decide +kernel)⟩
theorem lkJ0_coder_7d493 : zlkV YJ0_coder_7d493 0 := ⟨⟨wi_J0, zWS_in (List.mem_of_getElem? (i := 179) (by decide +kernel)) (by decide +kernel), by decide, by decide, by decide +kernel, by decide⟩, zWS_in (List.mem_of_getElem? (i := 177) (by decide +kernel)) (by decide +kernel), zWS_in (List.mem_of_getElem? (i := 178) (by decide +kernel)) (by decide +kernel)⟩
theorem lkJ0_isLatin1_aae02 : zlkV YJ0_isLatin1_aae02 0 := ⟨⟨wi_J0, zWS_in (List.mem_of_getElem? (i := 189) (by decide +kernel)) (by decide +kernel), by decide, by decide, by decide +kernel, by decide⟩, zWS_in (List.mem_of_getElem? (i := 187) (by decide +kernel)) (by decide +kernel), zWS_in (List.mem_of_getElem? (i := 188) (by decide +kernel)) (by decide +kernel)⟩
theorem lkJ0_length_8abf5 : zlkV YJ0_length_8abf5 0 := ⟨⟨wi_J0, zWS_in (List.mem_of_getElem? (i := 175) (by decide +kernel)) (by decide +kernel), by decide, by decide, by decide +kernel, by decide⟩, zWS_in (List.mem_of_getElem? (i := 173) (by decide +kernel)) (by decide +kernel), zWS_in (List.mem_of_getElem? (i := 174) (by decide +kernel)) (by decide +kernel)⟩
theorem lkJ1_charAt_3b067 : zlkS YJ1_charAt_3b067 2 := ⟨⟨wi_J1, zWS_in (List.mem_of_getElem? (i := 192) (by decide +kernel)) (by decide +kernel), by decide, by decide, by decide +kernel, by decide⟩, zWS_in (List.mem_of_getElem? (i := 191) (by decide +kernel)) (by decide +kernel)⟩
theorem lkJ3_checkIndex_8e157 : zlkS YJ3_checkIndex_8e157 3 := ⟨⟨wi_J3, zWS_in (List.mem_of_getElem? (i := 200) (by decide +kernel)) (by decide +kernel), by decide, by decide, by decide +kernel, by decide⟩, zWS_in (List.mem_of_getElem? (i := 199) (by decide +kernel)) (by decide +kernel)⟩
theorem lkX5_addDigit : zlkV YX5_addDigit 1 := ⟨⟨wi_X5, zWS_in (List.mem_of_getElem? (i := 1144) (by decide +kernel)) (by decide +kernel), by decide, by decide, by decide +kernel, by decide⟩, zWS_in (List.mem_of_getElem? (i := 1142) (by decide +kernel)) (by decide +kernel), zWS_in (List.mem_of_getElem? (i := 1143) (by decide +kernel)) (by decide +kernel)⟩
theorem lkX5_addName : zlkV YX5_addName 1 := ⟨⟨wi_X5, zWS_in (List.mem_of_getElem? (i := 1120) (by decide +kernel)) (by decide +kernel), by decide, by decide, by decide +kernel, by decide⟩, zWS_in (List.mem_of_getElem? (i := 1118) (by decide +kernel)) (by decide +kernel), zWS_in (List.mem_of_getElem? (i := 1119) (by decide +kernel)) (by decide +kernel)⟩
theorem lkX5_addText : zlkV YX5_addText 1 := ⟨⟨wi_X5, zWS_in (List.mem_of_getElem? (i := 1130) (by decide +kernel)) (by decide +kernel), by decide, by decide, by decide +kernel, by decide⟩, zWS_in (List.mem_of_getElem? (i := 1128) (by decide +kernel)) (by decide +kernel), zWS_in (List.mem_of_getElem? (i := 1129) (by decide +kernel)) (by decide +kernel)⟩
theorem lkX5_clear : zlkV YX5_clear 0 := ⟨⟨wi_X5, zWS_in (List.mem_of_getElem? (i := 1111) (by decide +kernel)) (by decide +kernel), by decide, by decide, by decide +kernel, by decide⟩, zWS_in (List.mem_of_getElem? (i := 1109) (by decide +kernel)) (by decide +kernel), zWS_in (List.mem_of_getElem? (i := 1110) (by decide +kernel)) (by decide +kernel)⟩
theorem lkX5_length : zlkV YX5_length 0 := ⟨⟨wi_X5, zWS_in (List.mem_of_getElem? (i := 1149) (by decide +kernel)) (by decide +kernel), by decide, by decide, by decide +kernel, by decide⟩, zWS_in (List.mem_of_getElem? (i := 1147) (by decide +kernel)) (by decide +kernel), zWS_in (List.mem_of_getElem? (i := 1148) (by decide +kernel)) (by decide +kernel)⟩
theorem lkX7_cornerName : zlkV YX7_cornerName 1 := ⟨⟨wi_X7, zWS_in (List.mem_of_getElem? (i := 1136) (by decide +kernel)) (by decide +kernel), by decide, by decide, by decide +kernel, by decide⟩, zWS_in (List.mem_of_getElem? (i := 1134) (by decide +kernel)) (by decide +kernel), zWS_in (List.mem_of_getElem? (i := 1135) (by decide +kernel)) (by decide +kernel)⟩
theorem lkX7_personName : zlkV YX7_personName 1 := ⟨⟨wi_X7, zWS_in (List.mem_of_getElem? (i := 1115) (by decide +kernel)) (by decide +kernel), by decide, by decide, by decide +kernel, by decide⟩, zWS_in (List.mem_of_getElem? (i := 1113) (by decide +kernel)) (by decide +kernel), zWS_in (List.mem_of_getElem? (i := 1114) (by decide +kernel)) (by decide +kernel)⟩
theorem mlX11_173 : Cond.methodLink "ProperFollow" 173 ⟨"ProperFollow$Day", "followedBy", "(I)I"⟩ ∈ zWS := zWS_in (List.mem_of_getElem? (i := 1137) (by decide +kernel)) (by decide +kernel)
theorem mlX11_179 : Cond.methodLink "ProperFollow" 179 ⟨"ProperFollow$Day", "wayLeft", "(I)I"⟩ ∈ zWS := zWS_in (List.mem_of_getElem? (i := 1139) (by decide +kernel)) (by decide +kernel)
theorem mlX11_316 : Cond.methodLink "ProperFollow" 316 ⟨"ProperFollow$Line", "clear", "()V"⟩ ∈ zWS := zWS_in (List.mem_of_getElem? (i := 1108) (by decide +kernel)) (by decide +kernel)
theorem mlX11_317 : Cond.methodLink "ProperFollow" 317 ⟨"ProperFollow$Plan", "personName", "(I)J"⟩ ∈ zWS := zWS_in (List.mem_of_getElem? (i := 1112) (by decide +kernel)) (by decide +kernel)
theorem mlX11_321 : Cond.methodLink "ProperFollow" 321 ⟨"ProperFollow$Line", "addName", "(J)V"⟩ ∈ zWS := zWS_in (List.mem_of_getElem? (i := 1117) (by decide +kernel)) (by decide +kernel)
theorem mlX11_327 : Cond.methodLink "ProperFollow" 327 ⟨"ProperFollow$Line", "addText", "(Ljava/lang/String;)V"⟩ ∈ zWS := zWS_in (List.mem_of_getElem? (i := 1127) (by decide +kernel)) (by decide +kernel)
theorem mlX11_330 : Cond.methodLink "ProperFollow" 330 ⟨"ProperFollow$Plan", "cornerName", "(I)J"⟩ ∈ zWS := zWS_in (List.mem_of_getElem? (i := 1133) (by decide +kernel)) (by decide +kernel)
theorem mlX11_337 : Cond.methodLink "ProperFollow" 337 ⟨"ProperFollow$Line", "addDigit", "(I)V"⟩ ∈ zWS := zWS_in (List.mem_of_getElem? (i := 1141) (by decide +kernel)) (by decide +kernel)
theorem mlX11_342 : Cond.methodLink "ProperFollow" 342 ⟨"ProperFollow$Line", "length", "()I"⟩ ∈ zWS := zWS_in (List.mem_of_getElem? (i := 1146) (by decide +kernel)) (by decide +kernel)
theorem mlX5_19 : Cond.methodLink "ProperFollow$Line" 19 ⟨"java/lang/String", "length", "()I"⟩ ∈ zWS := zWS_in (List.mem_of_getElem? (i := 1131) (by decide +kernel)) (by decide +kernel)
theorem mlX5_25 : Cond.methodLink "ProperFollow$Line" 25 ⟨"java/lang/String", "charAt", "(I)C"⟩ ∈ zWS := zWS_in (List.mem_of_getElem? (i := 1132) (by decide +kernel)) (by decide +kernel)
theorem mlJ0_335 : Cond.methodLink "java/lang/String" 335 ⟨"java/lang/String", "coder", "()B"⟩ ∈ zWS := zWS_in (List.mem_of_getElem? (i := 176) (by decide +kernel)) (by decide +kernel)
theorem mlJ0_492 : Cond.methodLink "java/lang/String" 492 ⟨"java/lang/String", "isLatin1", "()Z"⟩ ∈ zWS := zWS_in (List.mem_of_getElem? (i := 186) (by decide +kernel)) (by decide +kernel)
theorem mlJ0_495 : Cond.methodLink "java/lang/String" 495 ⟨"java/lang/StringLatin1", "charAt", "([BI)C"⟩ ∈ zWS := zWS_in (List.mem_of_getElem? (i := 190) (by decide +kernel)) (by decide +kernel)
theorem mlJ0_1059 : Cond.methodLink "java/lang/String" 1059 ⟨"jdk/internal/util/Preconditions", "checkIndex", "(IILjava/util/function/BiFunction;)I"⟩ ∈ zWS := zWS_in (List.mem_of_getElem? (i := 198) (by decide +kernel)) (by decide +kernel)
theorem mlJ1_9 : Cond.methodLink "java/lang/StringLatin1" 9 ⟨"java/lang/String", "checkIndex", "(II)V"⟩ ∈ zWS := zWS_in (List.mem_of_getElem? (i := 193) (by decide +kernel)) (by decide +kernel)
theorem dJ0_charAt_5068e_0 : decode YJ0_charAt_5068e.2.1 0 = .ok (.aload_n 0, 1) := by decide +kernel
theorem dJ0_charAt_5068e_1 : decode YJ0_charAt_5068e.2.1 1 = .ok (.invokevirtual 492, 3) := by decide +kernel
theorem dJ0_charAt_5068e_4 : decode YJ0_charAt_5068e.2.1 4 = .ok (.ifCond .eq 12, 3) := by decide +kernel
theorem dJ0_charAt_5068e_7 : decode YJ0_charAt_5068e.2.1 7 = .ok (.aload_n 0, 1) := by decide +kernel
theorem dJ0_charAt_5068e_8 : decode YJ0_charAt_5068e.2.1 8 = .ok (.getfield 9, 3) := by decide +kernel
theorem dJ0_charAt_5068e_11 : decode YJ0_charAt_5068e.2.1 11 = .ok (.iload_n 1, 1) := by decide +kernel
theorem dJ0_charAt_5068e_12 : decode YJ0_charAt_5068e.2.1 12 = .ok (.invokestatic 495, 3) := by decide +kernel
theorem dJ0_charAt_5068e_15 : decode YJ0_charAt_5068e.2.1 15 = .ok (.ireturn, 1) := by decide +kernel
theorem dJ0_charAt_5068e_16 : decode YJ0_charAt_5068e.2.1 16 = .ok (.aload_n 0, 1) := by decide +kernel
theorem dJ0_charAt_5068e_17 : decode YJ0_charAt_5068e.2.1 17 = .ok (.getfield 9, 3) := by decide +kernel
theorem dJ0_charAt_5068e_20 : decode YJ0_charAt_5068e.2.1 20 = .ok (.iload_n 1, 1) := by decide +kernel
theorem dJ0_charAt_5068e_21 : decode YJ0_charAt_5068e.2.1 21 = .ok (.invokestatic 498, 3) := by decide +kernel
theorem dJ0_charAt_5068e_24 : decode YJ0_charAt_5068e.2.1 24 = .ok (.ireturn, 1) := by decide +kernel
theorem dJ0_checkIndex_df160_0 : decode YJ0_checkIndex_df160.2.1 0 = .ok (.iload_n 0, 1) := by decide +kernel
theorem dJ0_checkIndex_df160_1 : decode YJ0_checkIndex_df160.2.1 1 = .ok (.iload_n 1, 1) := by decide +kernel
theorem dJ0_checkIndex_df160_2 : decode YJ0_checkIndex_df160.2.1 2 = .ok (.getstatic 1053, 3) := by decide +kernel
theorem dJ0_checkIndex_df160_5 : decode YJ0_checkIndex_df160.2.1 5 = .ok (.invokestatic 1059, 3) := by decide +kernel
theorem dJ0_checkIndex_df160_8 : decode YJ0_checkIndex_df160.2.1 8 = .ok (.pop, 1) := by decide +kernel
theorem dJ0_checkIndex_df160_9 : decode YJ0_checkIndex_df160.2.1 9 = .ok (.return_, 1) := by decide +kernel
theorem dJ0_coder_7d493_0 : decode YJ0_coder_7d493.2.1 0 = .ok (.getstatic 38, 3) := by decide +kernel
theorem dJ0_coder_7d493_3 : decode YJ0_coder_7d493.2.1 3 = .ok (.ifCond .eq 10, 3) := by decide +kernel
theorem dJ0_coder_7d493_6 : decode YJ0_coder_7d493.2.1 6 = .ok (.aload_n 0, 1) := by decide +kernel
theorem dJ0_coder_7d493_7 : decode YJ0_coder_7d493.2.1 7 = .ok (.getfield 15, 3) := by decide +kernel
theorem dJ0_coder_7d493_10 : decode YJ0_coder_7d493.2.1 10 = .ok (.goto 4, 3) := by decide +kernel
theorem dJ0_coder_7d493_13 : decode YJ0_coder_7d493.2.1 13 = .ok (.iconst 1, 1) := by decide +kernel
theorem dJ0_coder_7d493_14 : decode YJ0_coder_7d493.2.1 14 = .ok (.ireturn, 1) := by decide +kernel
theorem dJ0_isLatin1_aae02_0 : decode YJ0_isLatin1_aae02.2.1 0 = .ok (.getstatic 38, 3) := by decide +kernel
theorem dJ0_isLatin1_aae02_3 : decode YJ0_isLatin1_aae02.2.1 3 = .ok (.ifCond .eq 14, 3) := by decide +kernel
theorem dJ0_isLatin1_aae02_6 : decode YJ0_isLatin1_aae02.2.1 6 = .ok (.aload_n 0, 1) := by decide +kernel
theorem dJ0_isLatin1_aae02_7 : decode YJ0_isLatin1_aae02.2.1 7 = .ok (.getfield 15, 3) := by decide +kernel
theorem dJ0_isLatin1_aae02_10 : decode YJ0_isLatin1_aae02.2.1 10 = .ok (.ifCond .ne 7, 3) := by decide +kernel
theorem dJ0_isLatin1_aae02_13 : decode YJ0_isLatin1_aae02.2.1 13 = .ok (.iconst 1, 1) := by decide +kernel
theorem dJ0_isLatin1_aae02_14 : decode YJ0_isLatin1_aae02.2.1 14 = .ok (.goto 4, 3) := by decide +kernel
theorem dJ0_isLatin1_aae02_17 : decode YJ0_isLatin1_aae02.2.1 17 = .ok (.iconst 0, 1) := by decide +kernel
theorem dJ0_isLatin1_aae02_18 : decode YJ0_isLatin1_aae02.2.1 18 = .ok (.ireturn, 1) := by decide +kernel
theorem dJ0_length_8abf5_0 : decode YJ0_length_8abf5.2.1 0 = .ok (.aload_n 0, 1) := by decide +kernel
theorem dJ0_length_8abf5_1 : decode YJ0_length_8abf5.2.1 1 = .ok (.getfield 9, 3) := by decide +kernel
theorem dJ0_length_8abf5_4 : decode YJ0_length_8abf5.2.1 4 = .ok (.arraylength, 1) := by decide +kernel
theorem dJ0_length_8abf5_5 : decode YJ0_length_8abf5.2.1 5 = .ok (.aload_n 0, 1) := by decide +kernel
theorem dJ0_length_8abf5_6 : decode YJ0_length_8abf5.2.1 6 = .ok (.invokevirtual 335, 3) := by decide +kernel
theorem dJ0_length_8abf5_9 : decode YJ0_length_8abf5.2.1 9 = .ok (.ishr, 1) := by decide +kernel
theorem dJ0_length_8abf5_10 : decode YJ0_length_8abf5.2.1 10 = .ok (.ireturn, 1) := by decide +kernel
theorem dJ1_charAt_3b067_0 : decode YJ1_charAt_3b067.2.1 0 = .ok (.iload_n 1, 1) := by decide +kernel
theorem dJ1_charAt_3b067_1 : decode YJ1_charAt_3b067.2.1 1 = .ok (.aload_n 0, 1) := by decide +kernel
theorem dJ1_charAt_3b067_2 : decode YJ1_charAt_3b067.2.1 2 = .ok (.arraylength, 1) := by decide +kernel
theorem dJ1_charAt_3b067_3 : decode YJ1_charAt_3b067.2.1 3 = .ok (.invokestatic 9, 3) := by decide +kernel
theorem dJ1_charAt_3b067_6 : decode YJ1_charAt_3b067.2.1 6 = .ok (.aload_n 0, 1) := by decide +kernel
theorem dJ1_charAt_3b067_7 : decode YJ1_charAt_3b067.2.1 7 = .ok (.iload_n 1, 1) := by decide +kernel
theorem dJ1_charAt_3b067_8 : decode YJ1_charAt_3b067.2.1 8 = .ok (.baload, 1) := by decide +kernel
theorem dJ1_charAt_3b067_9 : decode YJ1_charAt_3b067.2.1 9 = .ok (.sipush 255, 3) := by decide +kernel
theorem dJ1_charAt_3b067_12 : decode YJ1_charAt_3b067.2.1 12 = .ok (.iand, 1) := by decide +kernel
theorem dJ1_charAt_3b067_13 : decode YJ1_charAt_3b067.2.1 13 = .ok (.i2c, 1) := by decide +kernel
theorem dJ1_charAt_3b067_14 : decode YJ1_charAt_3b067.2.1 14 = .ok (.ireturn, 1) := by decide +kernel
theorem dJ3_checkIndex_8e157_0 : decode YJ3_checkIndex_8e157.2.1 0 = .ok (.iload_n 0, 1) := by decide +kernel
theorem dJ3_checkIndex_8e157_1 : decode YJ3_checkIndex_8e157.2.1 1 = .ok (.ifCond .lt 8, 3) := by decide +kernel
theorem dJ3_checkIndex_8e157_4 : decode YJ3_checkIndex_8e157.2.1 4 = .ok (.iload_n 0, 1) := by decide +kernel
theorem dJ3_checkIndex_8e157_5 : decode YJ3_checkIndex_8e157.2.1 5 = .ok (.iload_n 1, 1) := by decide +kernel
theorem dJ3_checkIndex_8e157_6 : decode YJ3_checkIndex_8e157.2.1 6 = .ok (.if_icmp .lt 10, 3) := by decide +kernel
theorem dJ3_checkIndex_8e157_9 : decode YJ3_checkIndex_8e157.2.1 9 = .ok (.aload_n 2, 1) := by decide +kernel
theorem dJ3_checkIndex_8e157_10 : decode YJ3_checkIndex_8e157.2.1 10 = .ok (.iload_n 0, 1) := by decide +kernel
theorem dJ3_checkIndex_8e157_11 : decode YJ3_checkIndex_8e157.2.1 11 = .ok (.iload_n 1, 1) := by decide +kernel
theorem dJ3_checkIndex_8e157_12 : decode YJ3_checkIndex_8e157.2.1 12 = .ok (.invokestatic 95, 3) := by decide +kernel
theorem dJ3_checkIndex_8e157_15 : decode YJ3_checkIndex_8e157.2.1 15 = .ok (.athrow, 1) := by decide +kernel
theorem dJ3_checkIndex_8e157_16 : decode YJ3_checkIndex_8e157.2.1 16 = .ok (.iload_n 0, 1) := by decide +kernel
theorem dJ3_checkIndex_8e157_17 : decode YJ3_checkIndex_8e157.2.1 17 = .ok (.ireturn, 1) := by decide +kernel
theorem dX11_line_0 : decode YX11_line.2.1 0 = .ok (.aload_n 0, 1) := by decide +kernel
theorem dX11_line_1 : decode YX11_line.2.1 1 = .ok (.getfield 28, 3) := by decide +kernel
theorem dX11_line_4 : decode YX11_line.2.1 4 = .ok (.iload_n 1, 1) := by decide +kernel
theorem dX11_line_5 : decode YX11_line.2.1 5 = .ok (.invokevirtual 156, 3) := by decide +kernel
theorem dX11_line_8 : decode YX11_line.2.1 8 = .ok (.ifCond .ne 5, 3) := by decide +kernel
theorem dX11_line_11 : decode YX11_line.2.1 11 = .ok (.iconst (-1), 1) := by decide +kernel
theorem dX11_line_12 : decode YX11_line.2.1 12 = .ok (.ireturn, 1) := by decide +kernel
theorem dX11_line_13 : decode YX11_line.2.1 13 = .ok (.aload_n 0, 1) := by decide +kernel
theorem dX11_line_14 : decode YX11_line.2.1 14 = .ok (.getfield 92, 3) := by decide +kernel
theorem dX11_line_17 : decode YX11_line.2.1 17 = .ok (.invokevirtual 316, 3) := by decide +kernel
theorem dX11_line_20 : decode YX11_line.2.1 20 = .ok (.aload_n 0, 1) := by decide +kernel
theorem dX11_line_21 : decode YX11_line.2.1 21 = .ok (.getfield 92, 3) := by decide +kernel
theorem dX11_line_24 : decode YX11_line.2.1 24 = .ok (.aload_n 0, 1) := by decide +kernel
theorem dX11_line_25 : decode YX11_line.2.1 25 = .ok (.getfield 28, 3) := by decide +kernel
theorem dX11_line_28 : decode YX11_line.2.1 28 = .ok (.iload_n 1, 1) := by decide +kernel
theorem dX11_line_29 : decode YX11_line.2.1 29 = .ok (.invokevirtual 317, 3) := by decide +kernel
theorem dX11_line_32 : decode YX11_line.2.1 32 = .ok (.invokevirtual 321, 3) := by decide +kernel
theorem dX11_line_35 : decode YX11_line.2.1 35 = .ok (.aload_n 0, 1) := by decide +kernel
theorem dX11_line_36 : decode YX11_line.2.1 36 = .ok (.getfield 92, 3) := by decide +kernel
theorem dX11_line_39 : decode YX11_line.2.1 39 = .ok (.ldc_w 325, 3) := by decide +kernel
theorem dX11_line_42 : decode YX11_line.2.1 42 = .ok (.invokevirtual 327, 3) := by decide +kernel
theorem dX11_line_45 : decode YX11_line.2.1 45 = .ok (.aload_n 0, 1) := by decide +kernel
theorem dX11_line_46 : decode YX11_line.2.1 46 = .ok (.getfield 92, 3) := by decide +kernel
theorem dX11_line_49 : decode YX11_line.2.1 49 = .ok (.aload_n 0, 1) := by decide +kernel
theorem dX11_line_50 : decode YX11_line.2.1 50 = .ok (.getfield 28, 3) := by decide +kernel
theorem dX11_line_53 : decode YX11_line.2.1 53 = .ok (.aload_n 0, 1) := by decide +kernel
theorem dX11_line_54 : decode YX11_line.2.1 54 = .ok (.getfield 38, 3) := by decide +kernel
theorem dX11_line_57 : decode YX11_line.2.1 57 = .ok (.iload_n 1, 1) := by decide +kernel
theorem dX11_line_58 : decode YX11_line.2.1 58 = .ok (.invokevirtual 166, 3) := by decide +kernel
theorem dX11_line_61 : decode YX11_line.2.1 61 = .ok (.invokevirtual 330, 3) := by decide +kernel
theorem dX11_line_64 : decode YX11_line.2.1 64 = .ok (.invokevirtual 321, 3) := by decide +kernel
theorem dX11_line_67 : decode YX11_line.2.1 67 = .ok (.aload_n 0, 1) := by decide +kernel
theorem dX11_line_68 : decode YX11_line.2.1 68 = .ok (.getfield 38, 3) := by decide +kernel
theorem dX11_line_71 : decode YX11_line.2.1 71 = .ok (.iload_n 1, 1) := by decide +kernel
theorem dX11_line_72 : decode YX11_line.2.1 72 = .ok (.invokevirtual 173, 3) := by decide +kernel
theorem dX11_line_75 : decode YX11_line.2.1 75 = .ok (.iconst (-1), 1) := by decide +kernel
theorem dX11_line_76 : decode YX11_line.2.1 76 = .ok (.if_icmp .eq 38, 3) := by decide +kernel
theorem dX11_line_79 : decode YX11_line.2.1 79 = .ok (.aload_n 0, 1) := by decide +kernel
theorem dX11_line_80 : decode YX11_line.2.1 80 = .ok (.getfield 92, 3) := by decide +kernel
theorem dX11_line_83 : decode YX11_line.2.1 83 = .ok (.ldc_w 333, 3) := by decide +kernel
theorem dX11_line_86 : decode YX11_line.2.1 86 = .ok (.invokevirtual 327, 3) := by decide +kernel
theorem dX11_line_89 : decode YX11_line.2.1 89 = .ok (.aload_n 0, 1) := by decide +kernel
theorem dX11_line_90 : decode YX11_line.2.1 90 = .ok (.getfield 92, 3) := by decide +kernel
theorem dX11_line_93 : decode YX11_line.2.1 93 = .ok (.aload_n 0, 1) := by decide +kernel
theorem dX11_line_94 : decode YX11_line.2.1 94 = .ok (.getfield 28, 3) := by decide +kernel
theorem dX11_line_97 : decode YX11_line.2.1 97 = .ok (.aload_n 0, 1) := by decide +kernel
theorem dX11_line_98 : decode YX11_line.2.1 98 = .ok (.getfield 38, 3) := by decide +kernel
theorem dX11_line_101 : decode YX11_line.2.1 101 = .ok (.iload_n 1, 1) := by decide +kernel
theorem dX11_line_102 : decode YX11_line.2.1 102 = .ok (.invokevirtual 173, 3) := by decide +kernel
theorem dX11_line_105 : decode YX11_line.2.1 105 = .ok (.invokevirtual 317, 3) := by decide +kernel
theorem dX11_line_108 : decode YX11_line.2.1 108 = .ok (.invokevirtual 321, 3) := by decide +kernel
theorem dX11_line_111 : decode YX11_line.2.1 111 = .ok (.goto 52, 3) := by decide +kernel
theorem dX11_line_114 : decode YX11_line.2.1 114 = .ok (.aload_n 0, 1) := by decide +kernel
theorem dX11_line_115 : decode YX11_line.2.1 115 = .ok (.getfield 38, 3) := by decide +kernel
theorem dX11_line_118 : decode YX11_line.2.1 118 = .ok (.iload_n 1, 1) := by decide +kernel
theorem dX11_line_119 : decode YX11_line.2.1 119 = .ok (.invokevirtual 179, 3) := by decide +kernel
theorem dX11_line_122 : decode YX11_line.2.1 122 = .ok (.ifCond .le 31, 3) := by decide +kernel
theorem dX11_line_125 : decode YX11_line.2.1 125 = .ok (.aload_n 0, 1) := by decide +kernel
theorem dX11_line_126 : decode YX11_line.2.1 126 = .ok (.getfield 92, 3) := by decide +kernel
theorem dX11_line_129 : decode YX11_line.2.1 129 = .ok (.ldc_w 335, 3) := by decide +kernel
theorem dX11_line_132 : decode YX11_line.2.1 132 = .ok (.invokevirtual 327, 3) := by decide +kernel
theorem dX11_line_135 : decode YX11_line.2.1 135 = .ok (.aload_n 0, 1) := by decide +kernel
theorem dX11_line_136 : decode YX11_line.2.1 136 = .ok (.getfield 92, 3) := by decide +kernel
theorem dX11_line_139 : decode YX11_line.2.1 139 = .ok (.aload_n 0, 1) := by decide +kernel
theorem dX11_line_140 : decode YX11_line.2.1 140 = .ok (.getfield 38, 3) := by decide +kernel
theorem dX11_line_143 : decode YX11_line.2.1 143 = .ok (.iload_n 1, 1) := by decide +kernel
theorem dX11_line_144 : decode YX11_line.2.1 144 = .ok (.invokevirtual 179, 3) := by decide +kernel
theorem dX11_line_147 : decode YX11_line.2.1 147 = .ok (.invokevirtual 337, 3) := by decide +kernel
theorem dX11_line_150 : decode YX11_line.2.1 150 = .ok (.goto 13, 3) := by decide +kernel
theorem dX11_line_153 : decode YX11_line.2.1 153 = .ok (.aload_n 0, 1) := by decide +kernel
theorem dX11_line_154 : decode YX11_line.2.1 154 = .ok (.getfield 92, 3) := by decide +kernel
theorem dX11_line_157 : decode YX11_line.2.1 157 = .ok (.ldc_w 340, 3) := by decide +kernel
theorem dX11_line_160 : decode YX11_line.2.1 160 = .ok (.invokevirtual 327, 3) := by decide +kernel
theorem dX11_line_163 : decode YX11_line.2.1 163 = .ok (.aload_n 0, 1) := by decide +kernel
theorem dX11_line_164 : decode YX11_line.2.1 164 = .ok (.getfield 92, 3) := by decide +kernel
theorem dX11_line_167 : decode YX11_line.2.1 167 = .ok (.invokevirtual 342, 3) := by decide +kernel
theorem dX11_line_170 : decode YX11_line.2.1 170 = .ok (.ireturn, 1) := by decide +kernel
theorem dX5_addDigit_0 : decode YX5_addDigit.2.1 0 = .ok (.aload_n 0, 1) := by decide +kernel
theorem dX5_addDigit_1 : decode YX5_addDigit.2.1 1 = .ok (.bipush 48, 2) := by decide +kernel
theorem dX5_addDigit_3 : decode YX5_addDigit.2.1 3 = .ok (.iload_n 1, 1) := by decide +kernel
theorem dX5_addDigit_4 : decode YX5_addDigit.2.1 4 = .ok (.iadd, 1) := by decide +kernel
theorem dX5_addDigit_5 : decode YX5_addDigit.2.1 5 = .ok (.invokevirtual 29, 3) := by decide +kernel
theorem dX5_addDigit_8 : decode YX5_addDigit.2.1 8 = .ok (.return_, 1) := by decide +kernel
theorem dX5_addText_0 : decode YX5_addText.2.1 0 = .ok (.iconst 0, 1) := by decide +kernel
theorem dX5_addText_1 : decode YX5_addText.2.1 1 = .ok (.istore_n 2, 1) := by decide +kernel
theorem dX5_addText_2 : decode YX5_addText.2.1 2 = .ok (.iload_n 2, 1) := by decide +kernel
theorem dX5_addText_3 : decode YX5_addText.2.1 3 = .ok (.aload_n 1, 1) := by decide +kernel
theorem dX5_addText_4 : decode YX5_addText.2.1 4 = .ok (.invokevirtual 19, 3) := by decide +kernel
theorem dX5_addText_7 : decode YX5_addText.2.1 7 = .ok (.if_icmp .ge 18, 3) := by decide +kernel
theorem dX5_addText_10 : decode YX5_addText.2.1 10 = .ok (.aload_n 0, 1) := by decide +kernel
theorem dX5_addText_11 : decode YX5_addText.2.1 11 = .ok (.aload_n 1, 1) := by decide +kernel
theorem dX5_addText_12 : decode YX5_addText.2.1 12 = .ok (.iload_n 2, 1) := by decide +kernel
theorem dX5_addText_13 : decode YX5_addText.2.1 13 = .ok (.invokevirtual 25, 3) := by decide +kernel
theorem dX5_addText_16 : decode YX5_addText.2.1 16 = .ok (.invokevirtual 29, 3) := by decide +kernel
theorem dX5_addText_19 : decode YX5_addText.2.1 19 = .ok (.iinc 2 1, 3) := by decide +kernel
theorem dX5_addText_22 : decode YX5_addText.2.1 22 = .ok (.goto (-20), 3) := by decide +kernel
theorem dX5_addText_25 : decode YX5_addText.2.1 25 = .ok (.return_, 1) := by decide +kernel
theorem dX5_length_0 : decode YX5_length.2.1 0 = .ok (.aload_n 0, 1) := by decide +kernel
theorem dX5_length_1 : decode YX5_length.2.1 1 = .ok (.getfield 15, 3) := by decide +kernel
theorem dX5_length_4 : decode YX5_length.2.1 4 = .ok (.ireturn, 1) := by decide +kernel
theorem dX7_cornerName_0 : decode YX7_cornerName.2.1 0 = .ok (.aload_n 0, 1) := by decide +kernel
theorem dX7_cornerName_1 : decode YX7_cornerName.2.1 1 = .ok (.iload_n 1, 1) := by decide +kernel
theorem dX7_cornerName_2 : decode YX7_cornerName.2.1 2 = .ok (.invokevirtual 35, 3) := by decide +kernel
theorem dX7_cornerName_5 : decode YX7_cornerName.2.1 5 = .ok (.ifCond .eq 12, 3) := by decide +kernel
theorem dX7_cornerName_8 : decode YX7_cornerName.2.1 8 = .ok (.aload_n 0, 1) := by decide +kernel
theorem dX7_cornerName_9 : decode YX7_cornerName.2.1 9 = .ok (.getfield 9, 3) := by decide +kernel
theorem dX7_cornerName_12 : decode YX7_cornerName.2.1 12 = .ok (.iload_n 1, 1) := by decide +kernel
theorem dX7_cornerName_13 : decode YX7_cornerName.2.1 13 = .ok (.laload, 1) := by decide +kernel
theorem dX7_cornerName_14 : decode YX7_cornerName.2.1 14 = .ok (.goto 4, 3) := by decide +kernel
theorem dX7_cornerName_17 : decode YX7_cornerName.2.1 17 = .ok (.lconst 0, 1) := by decide +kernel
theorem dX7_cornerName_18 : decode YX7_cornerName.2.1 18 = .ok (.lreturn, 1) := by decide +kernel
theorem ffJ0_38 : Cond.fieldLink "java/lang/String" 38 "java/lang/String" "COMPACT_STRINGS" "Z" ∈ zWS := zWS_in (List.mem_of_getElem? (i := 180) (by decide +kernel)) (by decide +kernel)
theorem ffJ0_1053 : Cond.fieldLink "java/lang/String" 1053 "jdk/internal/util/Preconditions" "SIOOBE_FORMATTER" "Ljava/util/function/BiFunction;" ∈ zWS := zWS_in (List.mem_of_getElem? (i := 196) (by decide +kernel)) (by decide +kernel)
theorem ffJ2_44 : Cond.fieldLink "java/lang/StringUTF16" 44 "java/lang/StringUTF16" "$assertionsDisabled" "Z" ∈ zWS := zWS_in (List.mem_of_getElem? (i := 214) (by decide +kernel)) (by decide +kernel)
theorem ffJ2_59 : Cond.fieldLink "java/lang/StringUTF16" 59 "java/lang/StringUTF16" "HI_BYTE_SHIFT" "I" ∈ zWS := zWS_in (List.mem_of_getElem? (i := 216) (by decide +kernel)) (by decide +kernel)
theorem ffJ2_63 : Cond.fieldLink "java/lang/StringUTF16" 63 "java/lang/StringUTF16" "LO_BYTE_SHIFT" "I" ∈ zWS := zWS_in (List.mem_of_getElem? (i := 218) (by decide +kernel)) (by decide +kernel)
theorem ffJ0_9 : Cond.fieldLink "java/lang/String" 9 "java/lang/String" "value" "[B" ∈ zWS := zWS_in (List.mem_of_getElem? (i := 2153) (by decide +kernel)) (by decide +kernel)
theorem ffJ0_15 : Cond.fieldLink "java/lang/String" 15 "java/lang/String" "coder" "B" ∈ zWS := zWS_in (List.mem_of_getElem? (i := 2154) (by decide +kernel)) (by decide +kernel)
theorem LS_cod (Γ : zG) (M : zM) (k : Nat) (hk : k < 7) : zK Γ 1 YJ0_coder_7d493 [.ref (Γ.2.2.2.2.1 k)] M (fun v N => v = some (.int 0) ∧ N = M) := by
  refine zK_of (by decide) (Nat.le_of_ble_eq_true rfl) ?_
  refine zj_loc [0] rfl ?_
  refine zj_compact (pc' := 3) dJ0_coder_7d493_0 rfl ffJ0_38 ?_
  refine zj_if_eq (tgt := 13) (pc' := 6) dJ0_coder_7d493_3 rfl (by decide) (fun c => absurd c (by decide)) (fun _ => ?_)
  refine zj_aload_n 0 (pc' := 7) dJ0_coder_7d493_6 rfl rfl rfl ?_
  refine zj_scoder (pc' := 10) dJ0_coder_7d493_7 rfl ffJ0_15 hk ?_
  refine zj_goto (tgt := 14) dJ0_coder_7d493_10 (by decide) ?_
  exact zj_nret dJ0_coder_7d493_14 rfl rfl ⟨rfl, rfl⟩
theorem LS_isl (Γ : zG) (M : zM) (k : Nat) (hk : k < 7) : zK Γ 1 YJ0_isLatin1_aae02 [.ref (Γ.2.2.2.2.1 k)] M (fun v N => v = some (.int 1) ∧ N = M) := by
  refine zK_of (by decide) (Nat.le_of_ble_eq_true rfl) ?_
  refine zj_loc [0] rfl ?_
  refine zj_compact (pc' := 3) dJ0_isLatin1_aae02_0 rfl ffJ0_38 ?_
  refine zj_if_eq (tgt := 17) (pc' := 6) dJ0_isLatin1_aae02_3 rfl (by decide) (fun c => absurd c (by decide)) (fun _ => ?_)
  refine zj_aload_n 0 (pc' := 7) dJ0_isLatin1_aae02_6 rfl rfl rfl ?_
  refine zj_scoder (pc' := 10) dJ0_isLatin1_aae02_7 rfl ffJ0_15 hk ?_
  refine zj_if_ne (tgt := 17) (pc' := 13) dJ0_isLatin1_aae02_10 rfl (by decide) (fun c => absurd rfl c) (fun _ => ?_)
  refine zj_iconst (pc' := 14) dJ0_isLatin1_aae02_13 rfl kiconst_1 ?_
  refine zj_goto (tgt := 18) dJ0_isLatin1_aae02_14 (by decide) ?_
  exact zj_zret dJ0_isLatin1_aae02_18 rfl (Or.inr rfl) ⟨rfl, rfl⟩
theorem zSL_ok : ∀ k, k < 7 → (nI (zSL.getD k 0) >>> ((0 : Int32) &&& 31) = nI (zSL.getD k 0) ∧ zSL.getD k 0 < 2 ^ 31 ∧ ∀ j, j < zSL.getD k 0 → ((zchr k j &&& 255).toUInt32 % 65536).toInt32 = zchr k j ∧ narrow .char (.int (zchr k j)) = .int (zchr k j)) := by decide +kernel
theorem LS_len (Γ : zG) (M : zM) (k : Nat) (hk : k < 7) : zK Γ 2 YJ0_length_8abf5 [.ref (Γ.2.2.2.2.1 k)] M (fun v N => v = some (.int (nI (zSL.getD k 0))) ∧ N = M) := by
  refine zK_of (by decide) (Nat.le_of_ble_eq_true rfl) ?_
  refine zj_loc [0] rfl ?_
  refine zj_aload_n 0 (pc' := 1) dJ0_length_8abf5_0 rfl rfl rfl ?_
  refine zj_svalue (pc' := 4) dJ0_length_8abf5_1 rfl ffJ0_9 hk ?_
  refine zj_slen (pc' := 5) dJ0_length_8abf5_4 rfl hk rfl ?_
  refine zj_aload_n 0 (pc' := 6) dJ0_length_8abf5_5 rfl rfl rfl ?_
  refine zj_VS (pc' := 9) (z := YJ0_coder_7d493) (As := []) (N := M) dJ0_length_8abf5_6 rfl mlJ0_335 lkJ0_coder_7d493 rfl hk rfl rfl (Nat.le_of_ble_eq_true rfl) (Nat.le_of_ble_eq_true rfl) (LS_cod Γ _ k hk) rfl ?_
  refine zj_ishr (pc' := 10) dJ0_length_8abf5_9 rfl ?_
  refine zj_eqi (zSL_ok k hk).1.symm ?_
  exact zj_iret dJ0_length_8abf5_10 rfl ⟨rfl, rfl⟩
theorem LS_chk3 (Γ : zG) (M : zM) (i n : Int32) (v : Value) (hv : v = .null ∨ ∃ t, v = .ref t) (h0 : ¬ i < 0) (h1 : i < n) : zK Γ 1 YJ3_checkIndex_8e157 [.int i, .int n, v] M (fun w N => w = some (.int i) ∧ N = M) := by
  have hl : lv_args 0 [.int i, .int n, v] = [(0, .int i), (1, .int n), (2, v)] := by rcases hv with rfl | ⟨t, rfl⟩ <;> rfl
  refine zK_of (by decide) (by rcases hv with rfl | ⟨t, rfl⟩ <;> exact (Nat.le_of_ble_eq_true rfl)) ?_
  rw [hl]
  refine zj_iload_n 0 (pc' := 1) dJ3_checkIndex_8e157_0 rfl rfl rfl ?_
  refine zj_if_lt (tgt := 9) (pc' := 4) dJ3_checkIndex_8e157_1 rfl (by decide) (fun c => absurd c h0) (fun _ => ?_)
  refine zj_iload_n 0 (pc' := 5) dJ3_checkIndex_8e157_4 rfl rfl rfl ?_
  refine zj_iload_n 1 (pc' := 6) dJ3_checkIndex_8e157_5 rfl rfl rfl ?_
  refine zj_icmp_lt (tgt := 16) (pc' := 9) dJ3_checkIndex_8e157_6 rfl (by decide) (fun _ => ?_) (fun c => absurd h1 c)
  refine zj_iload_n 0 (pc' := 17) dJ3_checkIndex_8e157_16 rfl rfl rfl ?_
  exact zj_iret dJ3_checkIndex_8e157_17 rfl ⟨rfl, rfl⟩
theorem LS_chk (Γ : zG) (M : zM) (i n : Int32) (h0 : ¬ i < 0) (h1 : i < n) : zK Γ 2 YJ0_checkIndex_df160 [.int i, .int n] M (fun w N => w = none ∧ N = M) := by
  refine zK_of (by decide) (Nat.le_of_ble_eq_true rfl) ?_
  refine zj_loc [0, 1] rfl ?_
  refine zj_iload_n 0 (pc' := 1) dJ0_checkIndex_df160_0 rfl rfl rfl ?_
  refine zj_iload_n 1 (pc' := 2) dJ0_checkIndex_df160_1 rfl rfl rfl ?_
  refine zj_getsq (pc' := 5) dJ0_checkIndex_df160_2 rfl ffJ0_1053 (by decide) (fun v hv => ?_)
  refine zj_S1 (pc' := 8) (z := YJ3_checkIndex_8e157) (As := [.int i, .int n, v]) (N := M) dJ0_checkIndex_df160_5 rfl mlJ0_1059 lkJ3_checkIndex_8e157 rfl rfl (Nat.le_of_ble_eq_true rfl) (Nat.le_of_ble_eq_true rfl) (LS_chk3 Γ _ i n v hv h0 h1) rfl ?_
  refine zj_pop (pc' := 9) dJ0_checkIndex_df160_8 rfl rfl ?_
  exact zj_vret dJ0_checkIndex_df160_9 rfl ⟨rfl, rfl⟩
theorem LS_chr1 (Γ : zG) (M : zM) (k : Nat) (hk : k < 7) (j : Int32) {v : Int32} (hv : zrd (zchr k) (zSL.getD k 0) j = some v) : zK Γ 3 YJ1_charAt_3b067 [.ref (Γ.2.2.2.2.2 k), .int j] M (fun w N => w = some (.int v) ∧ N = M) := by
  obtain ⟨hin, e⟩ := zrd_some hv
  have ok := zSL_ok k hk
  obtain ⟨q, hq, rfl⟩ := vp_in_of hin ok.2.1
  rw [nI_clamp (by omega)] at e
  refine zK_of (by decide) (Nat.le_of_ble_eq_true rfl) ?_
  refine zj_loc [0, 1] rfl ?_
  refine zj_iload_n 1 (pc' := 1) dJ1_charAt_3b067_0 rfl rfl rfl ?_
  refine zj_aload_n 0 (pc' := 2) dJ1_charAt_3b067_1 rfl rfl rfl ?_
  refine zj_slen (pc' := 3) dJ1_charAt_3b067_2 rfl hk rfl ?_
  refine zj_S0 (pc' := 6) (z := YJ0_checkIndex_df160) (As := [.int (nI q), .int (nI (zSL.getD k 0))]) (N := M) dJ1_charAt_3b067_3 rfl mlJ1_9 lkJ0_checkIndex_df160 rfl rfl (Nat.le_of_ble_eq_true rfl) (Nat.le_of_ble_eq_true rfl) (LS_chk Γ _ (nI q) (nI (zSL.getD k 0)) (nI_pos (by omega)) (nI_lt hq ok.2.1)) rfl ?_
  refine zj_aload_n 0 (pc' := 7) dJ1_charAt_3b067_6 rfl rfl rfl ?_
  refine zj_iload_n 1 (pc' := 8) dJ1_charAt_3b067_7 rfl rfl rfl ?_
  refine zj_sbyte (pc' := 9) dJ1_charAt_3b067_8 rfl hk hin ?_
  rw [nI_clamp (by omega)]
  refine zj_sipush (pc' := 12) dJ1_charAt_3b067_9 rfl ksipush_255 ?_
  refine zj_iand (pc' := 13) dJ1_charAt_3b067_12 rfl ?_
  refine zj_i2c (pc' := 14) dJ1_charAt_3b067_13 rfl (ok.2.2 q hq).1 ?_
  exact zj_nret dJ1_charAt_3b067_14 rfl (ok.2.2 q hq).2 ⟨by rw [e], rfl⟩
theorem LS_chr (Γ : zG) (M : zM) (k : Nat) (hk : k < 7) (j : Int32) {v : Int32} (hv : zrd (zchr k) (zSL.getD k 0) j = some v) : zK Γ 4 YJ0_charAt_5068e [.ref (Γ.2.2.2.2.1 k), .int j] M (fun w N => w = some (.int v) ∧ N = M) := by
  refine zK_of (by decide) (Nat.le_of_ble_eq_true rfl) ?_
  refine zj_loc [0, 1] rfl ?_
  have hn : narrow .char (.int v) = .int v := by
    obtain ⟨hin, e⟩ := zrd_some hv
    have ok := zSL_ok k hk
    obtain ⟨q, hq, rfl⟩ := vp_in_of hin ok.2.1
    rw [nI_clamp (by omega)] at e
    rw [← e]
    exact (ok.2.2 q hq).2
  refine zj_aload_n 0 (pc' := 1) dJ0_charAt_5068e_0 rfl rfl rfl ?_
  refine zj_VS (pc' := 4) (z := YJ0_isLatin1_aae02) (As := []) (N := M) dJ0_charAt_5068e_1 rfl mlJ0_492 lkJ0_isLatin1_aae02 rfl hk rfl rfl (Nat.le_of_ble_eq_true rfl) (Nat.le_of_ble_eq_true rfl) (LS_isl Γ _ k hk) rfl ?_
  refine zj_if_eq (tgt := 16) (pc' := 7) dJ0_charAt_5068e_4 rfl (by decide) (fun c => absurd c (by decide)) (fun _ => ?_)
  refine zj_aload_n 0 (pc' := 8) dJ0_charAt_5068e_7 rfl rfl rfl ?_
  refine zj_svalue (pc' := 11) dJ0_charAt_5068e_8 rfl ffJ0_9 hk ?_
  refine zj_iload_n 1 (pc' := 12) dJ0_charAt_5068e_11 rfl rfl rfl ?_
  refine zj_S1 (pc' := 15) (z := YJ1_charAt_3b067) (As := [.ref (Γ.2.2.2.2.2 k), .int j]) (N := M) dJ0_charAt_5068e_12 rfl mlJ0_495 lkJ1_charAt_3b067 rfl rfl (Nat.le_of_ble_eq_true rfl) (Nat.le_of_ble_eq_true rfl) (LS_chr1 Γ _ k hk j hv) rfl ?_
  exact zj_nret dJ0_charAt_5068e_15 rfl hn ⟨rfl, rfl⟩
