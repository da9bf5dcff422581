def YX5_init : zY := (⟨"ProperFollow$Line", "<init>", "()V"⟩, prog_7_method_1_code, 1, none)
def YX2_init : zY := (⟨"ProperFollow$Draws", "<init>", "()V"⟩, prog_4_method_1_code, 1, none)
def YX6_init : zY := (⟨"ProperFollow$Pairing", "<init>", "()V"⟩, prog_8_method_1_code, 1, none)
def YX0_init : zY := (⟨"ProperFollow$Book", "<init>", "()V"⟩, prog_2_method_1_code, 1, none)
def YX4_init : zY := (⟨"ProperFollow$Kept", "<init>", "()V"⟩, prog_6_method_1_code, 1, none)
def YX3_init : zY := (⟨"ProperFollow$History", "<init>", "()V"⟩, prog_5_method_1_code, 2, none)
def YX9_init : zY := (⟨"ProperFollow$Sentence", "<init>", "()V"⟩, prog_11_method_1_code, 1, none)
def YX1_init : zY := (⟨"ProperFollow$Day", "<init>", "()V"⟩, prog_3_method_1_code, 1, none)
def YX7_init : zY := (⟨"ProperFollow$Plan", "<init>", "()V"⟩, prog_9_method_1_code, 1, none)
def YX8_init : zY := (⟨"ProperFollow$Reader", "<init>", "(LProperFollow$Tape;)V"⟩, prog_10_method_1_code, 2, none)
def YX10_init : zY := (⟨"ProperFollow$Tape", "<init>", "()V"⟩, prog_12_method_1_code, 1, none)
def YX8_packedWords : zY := (⟨"ProperFollow$Reader", "packedWords", "()[J"⟩, prog_10_method_2_code, 4, (some (.array .long)))
theorem oiI : Cond.instanceMethod objectInit ∈ zWS := zWS_in (List.mem_of_getElem? (i := 146) (by decide +kernel)) (by decide +kernel)
theorem oiC : Cond.code objectInit ⟨#[0xb1]⟩ 1 none ∈ zWS := zWS_in (List.mem_of_getElem? (i := 147) (by decide +kernel)) (by decide +kernel)
theorem wA0 : Cond.arrayClass .int ∈ zWS := zWS_in (List.mem_of_getElem? (i := 161) (by decide +kernel)) (by decide +kernel)
theorem wA1 : Cond.arrayClass .long ∈ zWS := zWS_in (List.mem_of_getElem? (i := 252) (by decide +kernel)) (by decide +kernel)
theorem wA2 : Cond.arrayClass .byte ∈ zWS := zWS_in (List.mem_of_getElem? (i := 253) (by decide +kernel)) (by decide +kernel)
theorem wA3 : Cond.arrayClass .boolean ∈ zWS := zWS_in (List.mem_of_getElem? (i := 1690) (by decide +kernel)) (by decide +kernel)
theorem mlX8_25 : Cond.methodLink "ProperFollow$Reader" 25 ⟨"java/lang/String", "length", "()I"⟩ ∈ zWS := zWS_in (List.mem_of_getElem? (i := 172) (by decide +kernel)) (by decide +kernel)
theorem mlX8_31 : Cond.methodLink "ProperFollow$Reader" 31 ⟨"java/lang/String", "charAt", "(I)C"⟩ ∈ zWS := zWS_in (List.mem_of_getElem? (i := 182) (by decide +kernel)) (by decide +kernel)
theorem dX8_packedWords_0 : decode YX8_packedWords.2.1 0 = .ok (.bipush 22, 2) := by decide +kernel
theorem dX8_packedWords_2 : decode YX8_packedWords.2.1 2 = .ok (.newarray .long, 2) := by decide +kernel
theorem dX8_packedWords_4 : decode YX8_packedWords.2.1 4 = .ok (.astore_n 0, 1) := by decide +kernel
theorem dX8_packedWords_5 : decode YX8_packedWords.2.1 5 = .ok (.iconst 0, 1) := by decide +kernel
theorem dX8_packedWords_6 : decode YX8_packedWords.2.1 6 = .ok (.istore_n 1, 1) := by decide +kernel
theorem dX8_packedWords_7 : decode YX8_packedWords.2.1 7 = .ok (.iconst 0, 1) := by decide +kernel
theorem dX8_packedWords_8 : decode YX8_packedWords.2.1 8 = .ok (.istore_n 2, 1) := by decide +kernel
theorem dX8_packedWords_9 : decode YX8_packedWords.2.1 9 = .ok (.iload_n 2, 1) := by decide +kernel
theorem dX8_packedWords_10 : decode YX8_packedWords.2.1 10 = .ok (.ldc 23, 2) := by decide +kernel
theorem dX8_packedWords_12 : decode YX8_packedWords.2.1 12 = .ok (.invokevirtual 25, 3) := by decide +kernel
theorem dX8_packedWords_15 : decode YX8_packedWords.2.1 15 = .ok (.if_icmp .ge 44, 3) := by decide +kernel
theorem dX8_packedWords_18 : decode YX8_packedWords.2.1 18 = .ok (.iload_n 1, 1) := by decide +kernel
theorem dX8_packedWords_19 : decode YX8_packedWords.2.1 19 = .ok (.bipush 22, 2) := by decide +kernel
theorem dX8_packedWords_21 : decode YX8_packedWords.2.1 21 = .ok (.if_icmp .ge 38, 3) := by decide +kernel
theorem dX8_packedWords_24 : decode YX8_packedWords.2.1 24 = .ok (.ldc 23, 2) := by decide +kernel
theorem dX8_packedWords_26 : decode YX8_packedWords.2.1 26 = .ok (.iload_n 2, 1) := by decide +kernel
theorem dX8_packedWords_27 : decode YX8_packedWords.2.1 27 = .ok (.invokevirtual 31, 3) := by decide +kernel
theorem dX8_packedWords_30 : decode YX8_packedWords.2.1 30 = .ok (.istore_n 3, 1) := by decide +kernel
theorem dX8_packedWords_31 : decode YX8_packedWords.2.1 31 = .ok (.iload_n 3, 1) := by decide +kernel
theorem dX8_packedWords_32 : decode YX8_packedWords.2.1 32 = .ok (.bipush 32, 2) := by decide +kernel
theorem dX8_packedWords_34 : decode YX8_packedWords.2.1 34 = .ok (.if_icmp .ne 9, 3) := by decide +kernel
theorem dX8_packedWords_37 : decode YX8_packedWords.2.1 37 = .ok (.iinc 1 1, 3) := by decide +kernel
theorem dX8_packedWords_40 : decode YX8_packedWords.2.1 40 = .ok (.goto 13, 3) := by decide +kernel
theorem dX8_packedWords_43 : decode YX8_packedWords.2.1 43 = .ok (.aload_n 0, 1) := by decide +kernel
theorem dX8_packedWords_44 : decode YX8_packedWords.2.1 44 = .ok (.iload_n 1, 1) := by decide +kernel
theorem dX8_packedWords_45 : decode YX8_packedWords.2.1 45 = .ok (.aload_n 0, 1) := by decide +kernel
theorem dX8_packedWords_46 : decode YX8_packedWords.2.1 46 = .ok (.iload_n 1, 1) := by decide +kernel
theorem dX8_packedWords_47 : decode YX8_packedWords.2.1 47 = .ok (.laload, 1) := by decide +kernel
theorem dX8_packedWords_48 : decode YX8_packedWords.2.1 48 = .ok (.iload_n 3, 1) := by decide +kernel
theorem dX8_packedWords_49 : decode YX8_packedWords.2.1 49 = .ok (.invokestatic 35, 3) := by decide +kernel
theorem dX8_packedWords_52 : decode YX8_packedWords.2.1 52 = .ok (.lastore, 1) := by decide +kernel
theorem dX8_packedWords_53 : decode YX8_packedWords.2.1 53 = .ok (.iinc 2 1, 3) := by decide +kernel
theorem dX8_packedWords_56 : decode YX8_packedWords.2.1 56 = .ok (.goto (-47), 3) := by decide +kernel
theorem dX8_packedWords_59 : decode YX8_packedWords.2.1 59 = .ok (.aload_n 0, 1) := by decide +kernel
theorem dX8_packedWords_60 : decode YX8_packedWords.2.1 60 = .ok (.areturn, 1) := by decide +kernel
theorem dX10_init_0 : decode YX10_init.2.1 0 = .ok (.aload_n 0, 1) := by decide +kernel
theorem dX10_init_1 : decode YX10_init.2.1 1 = .ok (.invokespecial 3, 3) := by decide +kernel
theorem moX10_3 : Cond.methodLink "ProperFollow$Tape" 3 objectInit ∈ zWS := zWS_in (List.mem_of_getElem? (i := 153) (by decide +kernel)) (by decide +kernel)
theorem dX10_init_4 : decode YX10_init.2.1 4 = .ok (.aload_n 0, 1) := by decide +kernel
theorem dX10_init_5 : decode YX10_init.2.1 5 = .ok (.sipush 940, 3) := by decide +kernel
theorem dX10_init_8 : decode YX10_init.2.1 8 = .ok (.newarray .int, 2) := by decide +kernel
theorem dX10_init_10 : decode YX10_init.2.1 10 = .ok (.putfield 11, 3) := by decide +kernel
theorem fFX10_11 : zfldF "ProperFollow$Tape" 11 10 0 (.array .int) := ⟨kR10, kT10, 2, kt10, rfl, ki10, by decide, fwX10_11, kk10, kn10, by decide +kernel, by decide +kernel, by decide +kernel⟩
theorem dX10_init_13 : decode YX10_init.2.1 13 = .ok (.return_, 1) := by decide +kernel
theorem dX8_init_0 : decode YX8_init.2.1 0 = .ok (.aload_n 0, 1) := by decide +kernel
theorem dX8_init_1 : decode YX8_init.2.1 1 = .ok (.invokespecial 3, 3) := by decide +kernel
theorem moX8_3 : Cond.methodLink "ProperFollow$Reader" 3 objectInit ∈ zWS := zWS_in (List.mem_of_getElem? (i := 167) (by decide +kernel)) (by decide +kernel)
theorem dX8_init_4 : decode YX8_init.2.1 4 = .ok (.aload_n 0, 1) := by decide +kernel
theorem dX8_init_5 : decode YX8_init.2.1 5 = .ok (.invokestatic 9, 3) := by decide +kernel
theorem mlX8_9 : Cond.methodLink "ProperFollow$Reader" 9 ⟨"ProperFollow$Reader", "packedWords", "()[J"⟩ ∈ zWS := zWS_in (List.mem_of_getElem? (i := 168) (by decide +kernel)) (by decide +kernel)
theorem lkX8_packedWords : zlkS YX8_packedWords 0 := ⟨⟨wi_X8, zWS_in (List.mem_of_getElem? (i := 170) (by decide +kernel)) (by decide +kernel), by decide, by decide, by decide +kernel, by decide⟩, zWS_in (List.mem_of_getElem? (i := 169) (by decide +kernel)) (by decide +kernel)⟩
theorem dX8_init_8 : decode YX8_init.2.1 8 = .ok (.putfield 15, 3) := by decide +kernel
theorem fFX8_15 : zfldF "ProperFollow$Reader" 15 8 1 (.array .long) := ⟨kR8, kT8, 9, kt8, rfl, ki8, by decide, fwX8_15, kk8, kn8, by decide +kernel, by decide +kernel, by decide +kernel⟩
theorem dX8_init_11 : decode YX8_init.2.1 11 = .ok (.aload_n 0, 1) := by decide +kernel
theorem dX8_init_12 : decode YX8_init.2.1 12 = .ok (.aload_n 1, 1) := by decide +kernel
theorem dX8_init_13 : decode YX8_init.2.1 13 = .ok (.putfield 19, 3) := by decide +kernel
theorem fFX8_19 : zfldF "ProperFollow$Reader" 19 8 0 (.object "ProperFollow$Tape") := ⟨kR8, kT8, 9, kt8, rfl, ki8, by decide, fwX8_19, kk8, kn8, by decide +kernel, by decide +kernel, by decide +kernel⟩
theorem dX8_init_16 : decode YX8_init.2.1 16 = .ok (.return_, 1) := by decide +kernel
theorem dX7_init_0 : decode YX7_init.2.1 0 = .ok (.aload_n 0, 1) := by decide +kernel
theorem dX7_init_1 : decode YX7_init.2.1 1 = .ok (.invokespecial 3, 3) := by decide +kernel
theorem moX7_3 : Cond.methodLink "ProperFollow$Plan" 3 objectInit ∈ zWS := zWS_in (List.mem_of_getElem? (i := 259) (by decide +kernel)) (by decide +kernel)
theorem dX7_init_4 : decode YX7_init.2.1 4 = .ok (.aload_n 0, 1) := by decide +kernel
theorem dX7_init_5 : decode YX7_init.2.1 5 = .ok (.bipush 8, 2) := by decide +kernel
theorem dX7_init_7 : decode YX7_init.2.1 7 = .ok (.newarray .long, 2) := by decide +kernel
theorem dX7_init_9 : decode YX7_init.2.1 9 = .ok (.putfield 9, 3) := by decide +kernel
theorem fFX7_9 : zfldF "ProperFollow$Plan" 9 7 0 (.array .long) := ⟨kR7, kT7, 7, kt7, rfl, ki7, by decide, fwX7_9, kk7, kn7, by decide +kernel, by decide +kernel, by decide +kernel⟩
theorem dX7_init_12 : decode YX7_init.2.1 12 = .ok (.aload_n 0, 1) := by decide +kernel
theorem dX7_init_13 : decode YX7_init.2.1 13 = .ok (.bipush 6, 2) := by decide +kernel
theorem dX7_init_15 : decode YX7_init.2.1 15 = .ok (.newarray .long, 2) := by decide +kernel
theorem dX7_init_17 : decode YX7_init.2.1 17 = .ok (.putfield 15, 3) := by decide +kernel
theorem fFX7_15 : zfldF "ProperFollow$Plan" 15 7 1 (.array .long) := ⟨kR7, kT7, 7, kt7, rfl, ki7, by decide, fwX7_15, kk7, kn7, by decide +kernel, by decide +kernel, by decide +kernel⟩
theorem dX7_init_20 : decode YX7_init.2.1 20 = .ok (.aload_n 0, 1) := by decide +kernel
theorem dX7_init_21 : decode YX7_init.2.1 21 = .ok (.bipush 8, 2) := by decide +kernel
theorem dX7_init_23 : decode YX7_init.2.1 23 = .ok (.newarray .int, 2) := by decide +kernel
theorem dX7_init_25 : decode YX7_init.2.1 25 = .ok (.putfield 18, 3) := by decide +kernel
theorem fFX7_18 : zfldF "ProperFollow$Plan" 18 7 2 (.array .int) := ⟨kR7, kT7, 7, kt7, rfl, ki7, by decide, fwX7_18, kk7, kn7, by decide +kernel, by decide +kernel, by decide +kernel⟩
theorem dX7_init_28 : decode YX7_init.2.1 28 = .ok (.aload_n 0, 1) := by decide +kernel
theorem dX7_init_29 : decode YX7_init.2.1 29 = .ok (.bipush 64, 2) := by decide +kernel
theorem dX7_init_31 : decode YX7_init.2.1 31 = .ok (.newarray .int, 2) := by decide +kernel
theorem dX7_init_33 : decode YX7_init.2.1 33 = .ok (.putfield 22, 3) := by decide +kernel
theorem fFX7_22 : zfldF "ProperFollow$Plan" 22 7 3 (.array .int) := ⟨kR7, kT7, 7, kt7, rfl, ki7, by decide, fwX7_22, kk7, kn7, by decide +kernel, by decide +kernel, by decide +kernel⟩
theorem dX7_init_36 : decode YX7_init.2.1 36 = .ok (.return_, 1) := by decide +kernel
theorem dX1_init_0 : decode YX1_init.2.1 0 = .ok (.aload_n 0, 1) := by decide +kernel
theorem dX1_init_1 : decode YX1_init.2.1 1 = .ok (.invokespecial 3, 3) := by decide +kernel
theorem moX1_3 : Cond.methodLink "ProperFollow$Day" 3 objectInit ∈ zWS := zWS_in (List.mem_of_getElem? (i := 287) (by decide +kernel)) (by decide +kernel)
theorem dX1_init_4 : decode YX1_init.2.1 4 = .ok (.aload_n 0, 1) := by decide +kernel
theorem dX1_init_5 : decode YX1_init.2.1 5 = .ok (.bipush 36, 2) := by decide +kernel
theorem dX1_init_7 : decode YX1_init.2.1 7 = .ok (.newarray .int, 2) := by decide +kernel
theorem dX1_init_9 : decode YX1_init.2.1 9 = .ok (.putfield 9, 3) := by decide +kernel
theorem fFX1_9 : zfldF "ProperFollow$Day" 9 1 0 (.array .int) := ⟨kR1, kT1, 11, kt1, rfl, ki1, by decide, fwX1_9, kk1, kn1, by decide +kernel, by decide +kernel, by decide +kernel⟩
theorem dX1_init_12 : decode YX1_init.2.1 12 = .ok (.aload_n 0, 1) := by decide +kernel
theorem dX1_init_13 : decode YX1_init.2.1 13 = .ok (.bipush 6, 2) := by decide +kernel
theorem dX1_init_15 : decode YX1_init.2.1 15 = .ok (.newarray .int, 2) := by decide +kernel
theorem dX1_init_17 : decode YX1_init.2.1 17 = .ok (.putfield 15, 3) := by decide +kernel
theorem fFX1_15 : zfldF "ProperFollow$Day" 15 1 1 (.array .int) := ⟨kR1, kT1, 11, kt1, rfl, ki1, by decide, fwX1_15, kk1, kn1, by decide +kernel, by decide +kernel, by decide +kernel⟩
theorem dX1_init_20 : decode YX1_init.2.1 20 = .ok (.aload_n 0, 1) := by decide +kernel
theorem dX1_init_21 : decode YX1_init.2.1 21 = .ok (.bipush 6, 2) := by decide +kernel
theorem dX1_init_23 : decode YX1_init.2.1 23 = .ok (.newarray .int, 2) := by decide +kernel
theorem dX1_init_25 : decode YX1_init.2.1 25 = .ok (.putfield 18, 3) := by decide +kernel
theorem fFX1_18 : zfldF "ProperFollow$Day" 18 1 2 (.array .int) := ⟨kR1, kT1, 11, kt1, rfl, ki1, by decide, fwX1_18, kk1, kn1, by decide +kernel, by decide +kernel, by decide +kernel⟩
theorem dX1_init_28 : decode YX1_init.2.1 28 = .ok (.aload_n 0, 1) := by decide +kernel
theorem dX1_init_29 : decode YX1_init.2.1 29 = .ok (.bipush 6, 2) := by decide +kernel
theorem dX1_init_31 : decode YX1_init.2.1 31 = .ok (.newarray .int, 2) := by decide +kernel
theorem dX1_init_33 : decode YX1_init.2.1 33 = .ok (.putfield 21, 3) := by decide +kernel
theorem fFX1_21 : zfldF "ProperFollow$Day" 21 1 3 (.array .int) := ⟨kR1, kT1, 11, kt1, rfl, ki1, by decide, fwX1_21, kk1, kn1, by decide +kernel, by decide +kernel, by decide +kernel⟩
theorem dX1_init_36 : decode YX1_init.2.1 36 = .ok (.aload_n 0, 1) := by decide +kernel
theorem dX1_init_37 : decode YX1_init.2.1 37 = .ok (.bipush 48, 2) := by decide +kernel
theorem dX1_init_39 : decode YX1_init.2.1 39 = .ok (.newarray .int, 2) := by decide +kernel
theorem dX1_init_41 : decode YX1_init.2.1 41 = .ok (.putfield 24, 3) := by decide +kernel
theorem fFX1_24 : zfldF "ProperFollow$Day" 24 1 4 (.array .int) := ⟨kR1, kT1, 11, kt1, rfl, ki1, by decide, fwX1_24, kk1, kn1, by decide +kernel, by decide +kernel, by decide +kernel⟩
theorem dX1_init_44 : decode YX1_init.2.1 44 = .ok (.aload_n 0, 1) := by decide +kernel
theorem dX1_init_45 : decode YX1_init.2.1 45 = .ok (.bipush 6, 2) := by decide +kernel
theorem dX1_init_47 : decode YX1_init.2.1 47 = .ok (.newarray .int, 2) := by decide +kernel
theorem dX1_init_49 : decode YX1_init.2.1 49 = .ok (.putfield 27, 3) := by decide +kernel
theorem fFX1_27 : zfldF "ProperFollow$Day" 27 1 5 (.array .int) := ⟨kR1, kT1, 11, kt1, rfl, ki1, by decide, fwX1_27, kk1, kn1, by decide +kernel, by decide +kernel, by decide +kernel⟩
theorem dX1_init_52 : decode YX1_init.2.1 52 = .ok (.aload_n 0, 1) := by decide +kernel
theorem dX1_init_53 : decode YX1_init.2.1 53 = .ok (.bipush 8, 2) := by decide +kernel
theorem dX1_init_55 : decode YX1_init.2.1 55 = .ok (.newarray .int, 2) := by decide +kernel
theorem dX1_init_57 : decode YX1_init.2.1 57 = .ok (.putfield 30, 3) := by decide +kernel
theorem fFX1_30 : zfldF "ProperFollow$Day" 30 1 6 (.array .int) := ⟨kR1, kT1, 11, kt1, rfl, ki1, by decide, fwX1_30, kk1, kn1, by decide +kernel, by decide +kernel, by decide +kernel⟩
theorem dX1_init_60 : decode YX1_init.2.1 60 = .ok (.aload_n 0, 1) := by decide +kernel
theorem dX1_init_61 : decode YX1_init.2.1 61 = .ok (.bipush 8, 2) := by decide +kernel
theorem dX1_init_63 : decode YX1_init.2.1 63 = .ok (.newarray .int, 2) := by decide +kernel
theorem dX1_init_65 : decode YX1_init.2.1 65 = .ok (.putfield 33, 3) := by decide +kernel
theorem fFX1_33 : zfldF "ProperFollow$Day" 33 1 7 (.array .int) := ⟨kR1, kT1, 11, kt1, rfl, ki1, by decide, fwX1_33, kk1, kn1, by decide +kernel, by decide +kernel, by decide +kernel⟩
theorem dX1_init_68 : decode YX1_init.2.1 68 = .ok (.aload_n 0, 1) := by decide +kernel
theorem dX1_init_69 : decode YX1_init.2.1 69 = .ok (.bipush 6, 2) := by decide +kernel
theorem dX1_init_71 : decode YX1_init.2.1 71 = .ok (.newarray .int, 2) := by decide +kernel
theorem dX1_init_73 : decode YX1_init.2.1 73 = .ok (.putfield 36, 3) := by decide +kernel
theorem fFX1_36 : zfldF "ProperFollow$Day" 36 1 8 (.array .int) := ⟨kR1, kT1, 11, kt1, rfl, ki1, by decide, fwX1_36, kk1, kn1, by decide +kernel, by decide +kernel, by decide +kernel⟩
theorem dX1_init_76 : decode YX1_init.2.1 76 = .ok (.aload_n 0, 1) := by decide +kernel
theorem dX1_init_77 : decode YX1_init.2.1 77 = .ok (.getfield 9, 3) := by decide +kernel
theorem dX1_init_80 : decode YX1_init.2.1 80 = .ok (.iconst (-1), 1) := by decide +kernel
theorem dX1_init_81 : decode YX1_init.2.1 81 = .ok (.invokestatic 39, 3) := by decide +kernel
theorem dX1_init_84 : decode YX1_init.2.1 84 = .ok (.aload_n 0, 1) := by decide +kernel
theorem dX1_init_85 : decode YX1_init.2.1 85 = .ok (.getfield 18, 3) := by decide +kernel
theorem dX1_init_88 : decode YX1_init.2.1 88 = .ok (.iconst (-1), 1) := by decide +kernel
theorem dX1_init_89 : decode YX1_init.2.1 89 = .ok (.invokestatic 39, 3) := by decide +kernel
theorem dX1_init_92 : decode YX1_init.2.1 92 = .ok (.aload_n 0, 1) := by decide +kernel
theorem dX1_init_93 : decode YX1_init.2.1 93 = .ok (.getfield 21, 3) := by decide +kernel
theorem dX1_init_96 : decode YX1_init.2.1 96 = .ok (.iconst (-1), 1) := by decide +kernel
theorem dX1_init_97 : decode YX1_init.2.1 97 = .ok (.invokestatic 39, 3) := by decide +kernel
theorem dX1_init_100 : decode YX1_init.2.1 100 = .ok (.return_, 1) := by decide +kernel
theorem dX9_init_0 : decode YX9_init.2.1 0 = .ok (.aload_n 0, 1) := by decide +kernel
theorem dX9_init_1 : decode YX9_init.2.1 1 = .ok (.invokespecial 3, 3) := by decide +kernel
theorem moX9_3 : Cond.methodLink "ProperFollow$Sentence" 3 objectInit ∈ zWS := zWS_in (List.mem_of_getElem? (i := 330) (by decide +kernel)) (by decide +kernel)
theorem dX9_init_4 : decode YX9_init.2.1 4 = .ok (.aload_n 0, 1) := by decide +kernel
theorem dX9_init_5 : decode YX9_init.2.1 5 = .ok (.bipush 40, 2) := by decide +kernel
theorem dX9_init_7 : decode YX9_init.2.1 7 = .ok (.newarray .int, 2) := by decide +kernel
theorem dX9_init_9 : decode YX9_init.2.1 9 = .ok (.putfield 11, 3) := by decide +kernel
theorem fFX9_11 : zfldF "ProperFollow$Sentence" 11 9 0 (.array .int) := ⟨kR9, kT9, 11, kt9, rfl, ki9, by decide, fwX9_11, kk9, kn9, by decide +kernel, by decide +kernel, by decide +kernel⟩
theorem dX9_init_12 : decode YX9_init.2.1 12 = .ok (.aload_n 0, 1) := by decide +kernel
theorem dX9_init_13 : decode YX9_init.2.1 13 = .ok (.bipush 40, 2) := by decide +kernel
theorem dX9_init_15 : decode YX9_init.2.1 15 = .ok (.newarray .int, 2) := by decide +kernel
theorem dX9_init_17 : decode YX9_init.2.1 17 = .ok (.putfield 15, 3) := by decide +kernel
theorem fFX9_15 : zfldF "ProperFollow$Sentence" 15 9 1 (.array .int) := ⟨kR9, kT9, 11, kt9, rfl, ki9, by decide, fwX9_15, kk9, kn9, by decide +kernel, by decide +kernel, by decide +kernel⟩
theorem dX9_init_20 : decode YX9_init.2.1 20 = .ok (.aload_n 0, 1) := by decide +kernel
theorem dX9_init_21 : decode YX9_init.2.1 21 = .ok (.bipush 40, 2) := by decide +kernel
theorem dX9_init_23 : decode YX9_init.2.1 23 = .ok (.newarray .int, 2) := by decide +kernel
theorem dX9_init_25 : decode YX9_init.2.1 25 = .ok (.putfield 18, 3) := by decide +kernel
theorem fFX9_18 : zfldF "ProperFollow$Sentence" 18 9 2 (.array .int) := ⟨kR9, kT9, 11, kt9, rfl, ki9, by decide, fwX9_18, kk9, kn9, by decide +kernel, by decide +kernel, by decide +kernel⟩
theorem dX9_init_28 : decode YX9_init.2.1 28 = .ok (.aload_n 0, 1) := by decide +kernel
theorem dX9_init_29 : decode YX9_init.2.1 29 = .ok (.bipush 40, 2) := by decide +kernel
theorem dX9_init_31 : decode YX9_init.2.1 31 = .ok (.newarray .int, 2) := by decide +kernel
theorem dX9_init_33 : decode YX9_init.2.1 33 = .ok (.putfield 21, 3) := by decide +kernel
theorem fFX9_21 : zfldF "ProperFollow$Sentence" 21 9 3 (.array .int) := ⟨kR9, kT9, 11, kt9, rfl, ki9, by decide, fwX9_21, kk9, kn9, by decide +kernel, by decide +kernel, by decide +kernel⟩
theorem dX9_init_36 : decode YX9_init.2.1 36 = .ok (.aload_n 0, 1) := by decide +kernel
theorem dX9_init_37 : decode YX9_init.2.1 37 = .ok (.bipush 40, 2) := by decide +kernel
theorem dX9_init_39 : decode YX9_init.2.1 39 = .ok (.newarray .int, 2) := by decide +kernel
theorem dX9_init_41 : decode YX9_init.2.1 41 = .ok (.putfield 24, 3) := by decide +kernel
theorem fFX9_24 : zfldF "ProperFollow$Sentence" 24 9 4 (.array .int) := ⟨kR9, kT9, 11, kt9, rfl, ki9, by decide, fwX9_24, kk9, kn9, by decide +kernel, by decide +kernel, by decide +kernel⟩
theorem dX9_init_44 : decode YX9_init.2.1 44 = .ok (.return_, 1) := by decide +kernel
theorem dX3_init_0 : decode YX3_init.2.1 0 = .ok (.aload_n 0, 1) := by decide +kernel
theorem dX3_init_1 : decode YX3_init.2.1 1 = .ok (.invokespecial 1, 3) := by decide +kernel
theorem moX3_1 : Cond.methodLink "ProperFollow$History" 1 objectInit ∈ zWS := zWS_in (List.mem_of_getElem? (i := 370) (by decide +kernel)) (by decide +kernel)
theorem dX3_init_4 : decode YX3_init.2.1 4 = .ok (.aload_n 0, 1) := by decide +kernel
theorem dX3_init_5 : decode YX3_init.2.1 5 = .ok (.bipush 8, 2) := by decide +kernel
theorem dX3_init_7 : decode YX3_init.2.1 7 = .ok (.anewarray 9, 3) := by decide +kernel
theorem cwX3_9 : Cond.classLink "ProperFollow$History" 9 "ProperFollow$Day" ∈ zWS := zWS_in (List.mem_of_getElem? (i := 371) (by decide +kernel)) (by decide +kernel)
theorem dX3_init_10 : decode YX3_init.2.1 10 = .ok (.putfield 11, 3) := by decide +kernel
theorem fFX3_11 : zfldF "ProperFollow$History" 11 3 0 (.array (.object "ProperFollow$Day")) := ⟨kR3, kT3, 3, kt3, rfl, ki3, by decide, fwX3_11, kk3, kn3, by decide +kernel, by decide +kernel, by decide +kernel⟩
theorem dX3_init_13 : decode YX3_init.2.1 13 = .ok (.iconst 0, 1) := by decide +kernel
theorem dX3_init_14 : decode YX3_init.2.1 14 = .ok (.istore_n 1, 1) := by decide +kernel
theorem dX3_init_15 : decode YX3_init.2.1 15 = .ok (.iload_n 1, 1) := by decide +kernel
theorem dX3_init_16 : decode YX3_init.2.1 16 = .ok (.bipush 8, 2) := by decide +kernel
theorem dX3_init_18 : decode YX3_init.2.1 18 = .ok (.if_icmp .ge 22, 3) := by decide +kernel
theorem dX3_init_21 : decode YX3_init.2.1 21 = .ok (.aload_n 0, 1) := by decide +kernel
theorem dX3_init_22 : decode YX3_init.2.1 22 = .ok (.getfield 11, 3) := by decide +kernel
theorem dX3_init_25 : decode YX3_init.2.1 25 = .ok (.iload_n 1, 1) := by decide +kernel
theorem dX3_init_26 : decode YX3_init.2.1 26 = .ok (.new 9, 3) := by decide +kernel
theorem wsX1 : Cond.instantiable "ProperFollow$Day" 11 ∈ zWS := zWS_in (List.mem_of_getElem? (i := 283) (by decide +kernel)) (by decide +kernel)
theorem df1 : ∀ j, j < 11 → defaultValue (kt1 j) = vp_V [.null, .null, .null, .null, .null, .null, .null, .null, .null, .int 0, .int 0] j := fun j hj => match j, hj with
  | 0, _ => rfl
  | 1, _ => rfl
  | 2, _ => rfl
  | 3, _ => rfl
  | 4, _ => rfl
  | 5, _ => rfl
  | 6, _ => rfl
  | 7, _ => rfl
  | 8, _ => rfl
  | 9, _ => rfl
  | 10, _ => rfl
  | k + 11, h => absurd h (by omega)
theorem dX3_init_29 : decode YX3_init.2.1 29 = .ok (.dup, 1) := by decide +kernel
theorem dX3_init_30 : decode YX3_init.2.1 30 = .ok (.invokespecial 15, 3) := by decide +kernel
theorem lcX1_init : zlk YX1_init 0 := ⟨wi_X1, zWS_in (List.mem_of_getElem? (i := 286) (by decide +kernel)) (by decide +kernel), by decide, by decide, by decide +kernel, by decide⟩
theorem imX1_init : Cond.instanceMethod YX1_init.1 ∈ zWS := zWS_in (List.mem_of_getElem? (i := 285) (by decide +kernel)) (by decide +kernel)
theorem mlX3_15 : Cond.methodLink "ProperFollow$History" 15 ⟨"ProperFollow$Day", "<init>", "()V"⟩ ∈ zWS := zWS_in (List.mem_of_getElem? (i := 373) (by decide +kernel)) (by decide +kernel)
theorem dX3_init_33 : decode YX3_init.2.1 33 = .ok (.aastore, 1) := by decide +kernel
theorem dX3_init_34 : decode YX3_init.2.1 34 = .ok (.iinc 1 1, 3) := by decide +kernel
theorem dX3_init_37 : decode YX3_init.2.1 37 = .ok (.goto (-22), 3) := by decide +kernel
theorem dX3_init_40 : decode YX3_init.2.1 40 = .ok (.return_, 1) := by decide +kernel
theorem dX4_init_0 : decode YX4_init.2.1 0 = .ok (.aload_n 0, 1) := by decide +kernel
theorem dX4_init_1 : decode YX4_init.2.1 1 = .ok (.invokespecial 1, 3) := by decide +kernel
theorem moX4_1 : Cond.methodLink "ProperFollow$Kept" 1 objectInit ∈ zWS := zWS_in (List.mem_of_getElem? (i := 470) (by decide +kernel)) (by decide +kernel)
theorem dX4_init_4 : decode YX4_init.2.1 4 = .ok (.aload_n 0, 1) := by decide +kernel
theorem dX4_init_5 : decode YX4_init.2.1 5 = .ok (.new 7, 3) := by decide +kernel
theorem cwX4_7 : Cond.classLink "ProperFollow$Kept" 7 "ProperFollow$Plan" ∈ zWS := zWS_in (List.mem_of_getElem? (i := 471) (by decide +kernel)) (by decide +kernel)
theorem wsX7 : Cond.instantiable "ProperFollow$Plan" 7 ∈ zWS := zWS_in (List.mem_of_getElem? (i := 255) (by decide +kernel)) (by decide +kernel)
theorem df7 : ∀ j, j < 7 → defaultValue (kt7 j) = vp_V [.null, .null, .null, .null, .int 0, .int 0, .int 0] j := fun j hj => match j, hj with
  | 0, _ => rfl
  | 1, _ => rfl
  | 2, _ => rfl
  | 3, _ => rfl
  | 4, _ => rfl
  | 5, _ => rfl
  | 6, _ => rfl
  | k + 7, h => absurd h (by omega)
theorem dX4_init_8 : decode YX4_init.2.1 8 = .ok (.dup, 1) := by decide +kernel
theorem dX4_init_9 : decode YX4_init.2.1 9 = .ok (.invokespecial 9, 3) := by decide +kernel
theorem lcX7_init : zlk YX7_init 0 := ⟨wi_X7, zWS_in (List.mem_of_getElem? (i := 258) (by decide +kernel)) (by decide +kernel), by decide, by decide, by decide +kernel, by decide⟩
theorem imX7_init : Cond.instanceMethod YX7_init.1 ∈ zWS := zWS_in (List.mem_of_getElem? (i := 257) (by decide +kernel)) (by decide +kernel)
theorem nlX4_9 : ("ProperFollow$Kept", 9, (⟨"ProperFollow$Plan", "<init>", "()V"⟩ : MethodName), "ProperFollow") ∈ zNW := List.mem_of_getElem? (i := 7) (by decide +kernel)
theorem dX4_init_12 : decode YX4_init.2.1 12 = .ok (.putfield 10, 3) := by decide +kernel
theorem fFX4_10 : zfldF "ProperFollow$Kept" 10 4 0 (.object "ProperFollow$Plan") := ⟨kR4, kT4, 4, kt4, rfl, ki4, by decide, fwX4_10, kk4, kn4, by decide +kernel, by decide +kernel, by decide +kernel⟩
theorem dX4_init_15 : decode YX4_init.2.1 15 = .ok (.aload_n 0, 1) := by decide +kernel
theorem dX4_init_16 : decode YX4_init.2.1 16 = .ok (.new 16, 3) := by decide +kernel
theorem cwX4_16 : Cond.classLink "ProperFollow$Kept" 16 "ProperFollow$Day" ∈ zWS := zWS_in (List.mem_of_getElem? (i := 473) (by decide +kernel)) (by decide +kernel)
theorem dX4_init_19 : decode YX4_init.2.1 19 = .ok (.dup, 1) := by decide +kernel
theorem dX4_init_20 : decode YX4_init.2.1 20 = .ok (.invokespecial 18, 3) := by decide +kernel
theorem mlX4_18 : Cond.methodLink "ProperFollow$Kept" 18 ⟨"ProperFollow$Day", "<init>", "()V"⟩ ∈ zWS := zWS_in (List.mem_of_getElem? (i := 474) (by decide +kernel)) (by decide +kernel)
theorem dX4_init_23 : decode YX4_init.2.1 23 = .ok (.putfield 19, 3) := by decide +kernel
theorem fFX4_19 : zfldF "ProperFollow$Kept" 19 4 1 (.object "ProperFollow$Day") := ⟨kR4, kT4, 4, kt4, rfl, ki4, by decide, fwX4_19, kk4, kn4, by decide +kernel, by decide +kernel, by decide +kernel⟩
theorem dX4_init_26 : decode YX4_init.2.1 26 = .ok (.aload_n 0, 1) := by decide +kernel
theorem dX4_init_27 : decode YX4_init.2.1 27 = .ok (.new 23, 3) := by decide +kernel
theorem cwX4_23 : Cond.classLink "ProperFollow$Kept" 23 "ProperFollow$Sentence" ∈ zWS := zWS_in (List.mem_of_getElem? (i := 475) (by decide +kernel)) (by decide +kernel)
theorem wsX9 : Cond.instantiable "ProperFollow$Sentence" 11 ∈ zWS := zWS_in (List.mem_of_getElem? (i := 326) (by decide +kernel)) (by decide +kernel)
theorem df9 : ∀ j, j < 11 → defaultValue (kt9 j) = vp_V [.null, .null, .null, .null, .null, .int 0, .int 0, .int 0, .int 0, .int 0, .int 0] j := fun j hj => match j, hj with
  | 0, _ => rfl
  | 1, _ => rfl
  | 2, _ => rfl
  | 3, _ => rfl
  | 4, _ => rfl
  | 5, _ => rfl
  | 6, _ => rfl
  | 7, _ => rfl
  | 8, _ => rfl
  | 9, _ => rfl
  | 10, _ => rfl
  | k + 11, h => absurd h (by omega)
theorem dX4_init_30 : decode YX4_init.2.1 30 = .ok (.dup, 1) := by decide +kernel
theorem dX4_init_31 : decode YX4_init.2.1 31 = .ok (.invokespecial 25, 3) := by decide +kernel
theorem lcX9_init : zlk YX9_init 0 := ⟨wi_X9, zWS_in (List.mem_of_getElem? (i := 329) (by decide +kernel)) (by decide +kernel), by decide, by decide, by decide +kernel, by decide⟩
theorem imX9_init : Cond.instanceMethod YX9_init.1 ∈ zWS := zWS_in (List.mem_of_getElem? (i := 328) (by decide +kernel)) (by decide +kernel)
theorem nlX4_25 : ("ProperFollow$Kept", 25, (⟨"ProperFollow$Sentence", "<init>", "()V"⟩ : MethodName), "ProperFollow") ∈ zNW := List.mem_of_getElem? (i := 8) (by decide +kernel)
theorem dX4_init_34 : decode YX4_init.2.1 34 = .ok (.putfield 26, 3) := by decide +kernel
theorem fFX4_26 : zfldF "ProperFollow$Kept" 26 4 2 (.object "ProperFollow$Sentence") := ⟨kR4, kT4, 4, kt4, rfl, ki4, by decide, fwX4_26, kk4, kn4, by decide +kernel, by decide +kernel, by decide +kernel⟩
theorem dX4_init_37 : decode YX4_init.2.1 37 = .ok (.return_, 1) := by decide +kernel
theorem dX0_init_0 : decode YX0_init.2.1 0 = .ok (.aload_n 0, 1) := by decide +kernel
theorem dX0_init_1 : decode YX0_init.2.1 1 = .ok (.invokespecial 3, 3) := by decide +kernel
theorem moX0_3 : Cond.methodLink "ProperFollow$Book" 3 objectInit ∈ zWS := zWS_in (List.mem_of_getElem? (i := 391) (by decide +kernel)) (by decide +kernel)
theorem dX0_init_4 : decode YX0_init.2.1 4 = .ok (.aload_n 0, 1) := by decide +kernel
theorem dX0_init_5 : decode YX0_init.2.1 5 = .ok (.bipush 40, 2) := by decide +kernel
theorem dX0_init_7 : decode YX0_init.2.1 7 = .ok (.newarray .int, 2) := by decide +kernel
theorem dX0_init_9 : decode YX0_init.2.1 9 = .ok (.putfield 11, 3) := by decide +kernel
theorem fFX0_11 : zfldF "ProperFollow$Book" 11 0 0 (.array .int) := ⟨kR0, kT0, 10, kt0, rfl, ki0, by decide, fwX0_11, kk0, kn0, by decide +kernel, by decide +kernel, by decide +kernel⟩
theorem dX0_init_12 : decode YX0_init.2.1 12 = .ok (.aload_n 0, 1) := by decide +kernel
theorem dX0_init_13 : decode YX0_init.2.1 13 = .ok (.bipush 40, 2) := by decide +kernel
theorem dX0_init_15 : decode YX0_init.2.1 15 = .ok (.newarray .int, 2) := by decide +kernel
theorem dX0_init_17 : decode YX0_init.2.1 17 = .ok (.putfield 15, 3) := by decide +kernel
theorem fFX0_15 : zfldF "ProperFollow$Book" 15 0 1 (.array .int) := ⟨kR0, kT0, 10, kt0, rfl, ki0, by decide, fwX0_15, kk0, kn0, by decide +kernel, by decide +kernel, by decide +kernel⟩
theorem dX0_init_20 : decode YX0_init.2.1 20 = .ok (.aload_n 0, 1) := by decide +kernel
theorem dX0_init_21 : decode YX0_init.2.1 21 = .ok (.bipush 40, 2) := by decide +kernel
theorem dX0_init_23 : decode YX0_init.2.1 23 = .ok (.newarray .int, 2) := by decide +kernel
theorem dX0_init_25 : decode YX0_init.2.1 25 = .ok (.putfield 18, 3) := by decide +kernel
theorem fFX0_18 : zfldF "ProperFollow$Book" 18 0 2 (.array .int) := ⟨kR0, kT0, 10, kt0, rfl, ki0, by decide, fwX0_18, kk0, kn0, by decide +kernel, by decide +kernel, by decide +kernel⟩
theorem dX0_init_28 : decode YX0_init.2.1 28 = .ok (.aload_n 0, 1) := by decide +kernel
theorem dX0_init_29 : decode YX0_init.2.1 29 = .ok (.bipush 40, 2) := by decide +kernel
theorem dX0_init_31 : decode YX0_init.2.1 31 = .ok (.newarray .int, 2) := by decide +kernel
theorem dX0_init_33 : decode YX0_init.2.1 33 = .ok (.putfield 21, 3) := by decide +kernel
theorem fFX0_21 : zfldF "ProperFollow$Book" 21 0 3 (.array .int) := ⟨kR0, kT0, 10, kt0, rfl, ki0, by decide, fwX0_21, kk0, kn0, by decide +kernel, by decide +kernel, by decide +kernel⟩
theorem dX0_init_36 : decode YX0_init.2.1 36 = .ok (.return_, 1) := by decide +kernel
theorem dX6_init_0 : decode YX6_init.2.1 0 = .ok (.aload_n 0, 1) := by decide +kernel
theorem dX6_init_1 : decode YX6_init.2.1 1 = .ok (.invokespecial 3, 3) := by decide +kernel
theorem moX6_3 : Cond.methodLink "ProperFollow$Pairing" 3 objectInit ∈ zWS := zWS_in (List.mem_of_getElem? (i := 428) (by decide +kernel)) (by decide +kernel)
theorem dX6_init_4 : decode YX6_init.2.1 4 = .ok (.aload_n 0, 1) := by decide +kernel
theorem dX6_init_5 : decode YX6_init.2.1 5 = .ok (.bipush 6, 2) := by decide +kernel
theorem dX6_init_7 : decode YX6_init.2.1 7 = .ok (.newarray .int, 2) := by decide +kernel
theorem dX6_init_9 : decode YX6_init.2.1 9 = .ok (.putfield 9, 3) := by decide +kernel
theorem fFX6_9 : zfldF "ProperFollow$Pairing" 9 6 0 (.array .int) := ⟨kR6, kT6, 4, kt6, rfl, ki6, by decide, fwX6_9, kk6, kn6, by decide +kernel, by decide +kernel, by decide +kernel⟩
theorem dX6_init_12 : decode YX6_init.2.1 12 = .ok (.aload_n 0, 1) := by decide +kernel
theorem dX6_init_13 : decode YX6_init.2.1 13 = .ok (.bipush 6, 2) := by decide +kernel
theorem dX6_init_15 : decode YX6_init.2.1 15 = .ok (.newarray .int, 2) := by decide +kernel
theorem dX6_init_17 : decode YX6_init.2.1 17 = .ok (.putfield 15, 3) := by decide +kernel
theorem fFX6_15 : zfldF "ProperFollow$Pairing" 15 6 1 (.array .int) := ⟨kR6, kT6, 4, kt6, rfl, ki6, by decide, fwX6_15, kk6, kn6, by decide +kernel, by decide +kernel, by decide +kernel⟩
theorem dX6_init_20 : decode YX6_init.2.1 20 = .ok (.aload_n 0, 1) := by decide +kernel
theorem dX6_init_21 : decode YX6_init.2.1 21 = .ok (.iconst (-1), 1) := by decide +kernel
theorem dX6_init_22 : decode YX6_init.2.1 22 = .ok (.putfield 18, 3) := by decide +kernel
theorem dX6_init_25 : decode YX6_init.2.1 25 = .ok (.aload_n 0, 1) := by decide +kernel
theorem dX6_init_26 : decode YX6_init.2.1 26 = .ok (.iconst (-1), 1) := by decide +kernel
theorem dX6_init_27 : decode YX6_init.2.1 27 = .ok (.putfield 22, 3) := by decide +kernel
theorem dX6_init_30 : decode YX6_init.2.1 30 = .ok (.aload_n 0, 1) := by decide +kernel
theorem dX6_init_31 : decode YX6_init.2.1 31 = .ok (.getfield 15, 3) := by decide +kernel
theorem dX6_init_34 : decode YX6_init.2.1 34 = .ok (.iconst (-1), 1) := by decide +kernel
theorem dX6_init_35 : decode YX6_init.2.1 35 = .ok (.invokestatic 25, 3) := by decide +kernel
theorem mlX6_25 : Cond.methodLink "ProperFollow$Pairing" 25 ⟨"java/util/Arrays", "fill", "([II)V"⟩ ∈ zWS := zWS_in (List.mem_of_getElem? (i := 429) (by decide +kernel)) (by decide +kernel)
theorem dX6_init_38 : decode YX6_init.2.1 38 = .ok (.return_, 1) := by decide +kernel
theorem dX2_init_0 : decode YX2_init.2.1 0 = .ok (.aload_n 0, 1) := by decide +kernel
theorem dX2_init_1 : decode YX2_init.2.1 1 = .ok (.invokespecial 3, 3) := by decide +kernel
theorem moX2_3 : Cond.methodLink "ProperFollow$Draws" 3 objectInit ∈ zWS := zWS_in (List.mem_of_getElem? (i := 448) (by decide +kernel)) (by decide +kernel)
theorem dX2_init_4 : decode YX2_init.2.1 4 = .ok (.return_, 1) := by decide +kernel
theorem dX5_init_0 : decode YX5_init.2.1 0 = .ok (.aload_n 0, 1) := by decide +kernel
theorem dX5_init_1 : decode YX5_init.2.1 1 = .ok (.invokespecial 3, 3) := by decide +kernel
theorem moX5_3 : Cond.methodLink "ProperFollow$Line" 3 objectInit ∈ zWS := zWS_in (List.mem_of_getElem? (i := 458) (by decide +kernel)) (by decide +kernel)
theorem dX5_init_4 : decode YX5_init.2.1 4 = .ok (.aload_n 0, 1) := by decide +kernel
theorem dX5_init_5 : decode YX5_init.2.1 5 = .ok (.bipush 40, 2) := by decide +kernel
theorem dX5_init_7 : decode YX5_init.2.1 7 = .ok (.newarray .int, 2) := by decide +kernel
theorem dX5_init_9 : decode YX5_init.2.1 9 = .ok (.putfield 11, 3) := by decide +kernel
theorem fFX5_11 : zfldF "ProperFollow$Line" 11 5 0 (.array .int) := ⟨kR5, kT5, 2, kt5, rfl, ki5, by decide, fwX5_11, kk5, kn5, by decide +kernel, by decide +kernel, by decide +kernel⟩
theorem dX5_init_12 : decode YX5_init.2.1 12 = .ok (.return_, 1) := by decide +kernel
theorem zrefs8 {x0 x1 x2 x3 x4 x5 x6 x7 : Nat} : va_up (va_up (va_up (va_up (va_up (va_up (va_up (va_up (fun _ => none) 0 (some x0)) 1 (some x1)) 2 (some x2)) 3 (some x3)) 4 (some x4)) 5 (some x5)) 6 (some x6)) 7 (some x7) = fun j => ([x0, x1, x2, x3, x4, x5, x6, x7] : List Nat)[j]? := by
  funext j
  match j with
  | 0 => rfl
  | 1 => rfl
  | 2 => rfl
  | 3 => rfl
  | 4 => rfl
  | 5 => rfl
  | 6 => rfl
  | 7 => rfl
  | k + 8 => simp [va_up]
theorem zrefs2 {x0 x1 : Nat} : va_up (va_up (fun _ => none) 0 (some x0)) 1 (some x1) = fun j => ([x0, x1] : List Nat)[j]? := by
  funext j
  match j with
  | 0 => rfl
  | 1 => rfl
  | k + 2 => simp [va_up]
def zpk : Nat → Nat × (Nat → Int64)
  | 0 => (0, fun _ => 0)
  | i + 1 => if zchr 0 i = 32 then ((zpk i).1 + 1, (zpk i).2) else ((zpk i).1, vp_updL (zpk i).2 (zpk i).1 ((zpk i).2 (zpk i).1 * 32 + ((zchr 0 i - 97) + 1).toInt64))
def zpkn : Nat → Nat
  | 0 => 0
  | i + 1 => if zchr 0 i = 32 then zpkn i + 1 else zpkn i
theorem zpkn_eq : ∀ i, (zpk i).1 = zpkn i
  | 0 => rfl
  | i + 1 => by
    unfold zpk zpkn
    split
    · simp [zpkn_eq i]
    · simp [zpkn_eq i]
def zpw : Nat → Int64 := (zpk 127).2
theorem c_fill (g : yG) (a n : Nat) (f : Nat → Int32) (v : Int32) (hn : n < 2 ^ 31) : yK g 1 0 0 YJ7_fill_53178 [.ref a, .int v] [(a, .inl (g.2.1 0, n, .inl f))] (fun w ws => w = none ∧ ws = [(a, .inl (g.2.1 0, n, .inl (fun j => if j < n then v else f j)))]) := by
  refine yK_of (by decide) (Nat.le_of_ble_eq_true rfl) (fun A => ?_)
  refine ny_loc [0, 1] rfl ?_
  refine ny_iconst (pc' := 1) dJ7_fill_53178_0 rfl kiconst_0 ?_
  refine ny_istore_n (L' := [(2, .int 0), (0, .ref a), (1, .int v)]) (pc' := 2) dJ7_fill_53178_1 rfl rfl (by decide) rfl ?_
  refine ny_aload_n 1 (pc' := 3) dJ7_fill_53178_2 rfl rfl rfl ?_
  refine ny_alen (i := 0) (v := nI n) (pc' := 4) dJ7_fill_53178_3 rfl rfl rfl ?_
  refine ny_istore_n (L' := [(3, .int (nI n)), (2, .int 0), (0, .ref a), (1, .int v)]) (pc' := 5) dJ7_fill_53178_4 rfl rfl (by decide) rfl ?_
  have HL : ∀ (r i : Nat), i ≤ n → n + 1 ≤ i + r → yR g A 1 0 0 YJ7_fill_53178 5 [(0, .ref a), (1, .int v), (2, .int (nI i)), (3, .int (nI n))] [] [(a, .inl (g.2.1 0, n, .inl (fun j => if j < i then v else f j)))] 0 0 (fun w ws => w = none ∧ ws = [(a, .inl (g.2.1 0, n, .inl (fun j => if j < n then v else f j)))]) := by
    intro r
    induction r with
    | zero => intro i h1 h2; omega
    | succ r ih =>
      intro i h1 h2
      refine ny_iload_n 2 (pc' := 6) dJ7_fill_53178_5 rfl rfl rfl ?_
      refine ny_iload_n 3 (pc' := 7) dJ7_fill_53178_6 rfl rfl rfl ?_
      refine ny_icmp_ge (tgt := 20) (pc' := 10) dJ7_fill_53178_7 rfl (by decide) (fun c => ?_) (fun c => ?_)
      · have e : i = n := by
          have := (nI_leI hn (by omega)).mp c
          omega
        subst e
        exact ny_vret dJ7_fill_53178_20 rfl (Nat.le_refl _) (Nat.le_refl _) ⟨rfl, rfl⟩
      · have hi : i < n := by
          rcases Nat.lt_or_ge i n with q | q
          · exact q
          · exact absurd ((nI_leI hn (by omega)).mpr q) c
        refine ny_aload_n 0 (pc' := 11) dJ7_fill_53178_10 rfl rfl rfl ?_
        refine ny_iload_n 2 (pc' := 12) dJ7_fill_53178_11 rfl rfl rfl ?_
        refine ny_iload_n 1 (pc' := 13) dJ7_fill_53178_12 rfl rfl rfl ?_
        refine ny_iast (i := 0) (ws' := [(a, .inl (g.2.1 0, n, .inl (fun j => if j < i + 1 then v else f j)))]) (pc' := 14) dJ7_fill_53178_13 rfl rfl (vp_in_nI hi hn) ?_ ?_
        · rw [nI_clamp (by omega)]
          have e : upd (fun j => if j < i then v else f j) i v = (fun j => if j < i + 1 then v else f j) := by
            funext j
            unfold upd
            by_cases h : j = i
            · simp [h]
            · by_cases h3 : j < i
              · simp [h, h3, Nat.lt_succ_of_lt h3]
              · have h4 : ¬ j < i + 1 := by omega
                simp [h, h3, h4]
          rw [e]; rfl
        · refine ny_iinc 2 (v := nI (i + 1)) (L' := [(2, .int (nI (i + 1))), (0, .ref a), (1, .int v), (3, .int (nI n))]) (pc' := 17) dJ7_fill_53178_14 rfl rfl (by rw [ci1]; exact nI_1 i) (by decide) rfl ?_
          refine ny_goto (tgt := 5) dJ7_fill_53178_17 (by decide) ?_
          refine ny_loc [1, 2, 0, 3] rfl ?_
          exact ih (i + 1) (by omega) (by omega)
  refine ny_loc [2, 3, 1, 0] rfl ?_
  refine ny_eq (ws' := [(a, .inl (g.2.1 0, n, .inl (fun j => if j < 0 then v else f j)))]) (by simp) ?_
  exact HL (n + 1) 0 (Nat.zero_le _) (by omega)
theorem c_let (g : yG) (x : Int64) (c : Int32) : yK g 1 0 0 YX8_withLetter [.long x, .int c] [] (fun v w => v = some (.long (x * 32 + ((c - 97) + 1).toInt64)) ∧ w = []) := by
  refine yK_of (by decide) (Nat.le_of_ble_eq_true rfl) (fun A => ?_)
  refine ny_loc [0, 1] rfl ?_
  refine ny_lload_n 0 (pc' := 1) dX8_withLetter_0 rfl rfl rfl ?_
  refine ny_ldc2 (pc' := 4) dX8_withLetter_1 rfl cL109 ?_
  refine ny_lmul (pc' := 5) dX8_withLetter_4 rfl ?_
  refine ny_iload_n 1 (pc' := 6) dX8_withLetter_5 rfl rfl rfl ?_
  refine ny_bipush (pc' := 8) dX8_withLetter_6 rfl kbipush_97 ?_
  refine ny_isub (pc' := 9) dX8_withLetter_8 rfl ?_
  refine ny_iconst (pc' := 10) dX8_withLetter_9 rfl kiconst_1 ?_
  refine ny_iadd (pc' := 11) dX8_withLetter_10 rfl ?_
  refine ny_i2l (pc' := 12) dX8_withLetter_11 rfl ?_
  refine ny_ladd (pc' := 13) dX8_withLetter_12 rfl ?_
  exact ny_lret dX8_withLetter_13 rfl (Nat.le_refl _) (Nat.le_refl _) ⟨rfl, rfl⟩
theorem zpk_lt : ∀ i, i < 127 → zpkn i < 22 := by decide +kernel
theorem zpk_all : ∀ i, i ≤ 127 → zpkn i ≤ 22 := by decide +kernel
theorem c_pack (g : yG) : yK g 6 1 22 YX8_packedWords [] [] (fun v w => ∃ q : Nat, v = some (.ref q) ∧ w = [(q, .inl (g.2.1 1, 22, .inr (.inl zpw)))]) := by
  refine yK_of (by decide) (Nat.le_of_ble_eq_true rfl) (fun A => ?_)
  refine ny_loc [] rfl ?_
  refine ny_bipush (pc' := 2) dX8_packedWords_0 rfl kbipush_22 ?_
  refine ny_newL (N := 22) (pc' := 4) dX8_packedWords_2 rfl wA1 (by decide) (by decide) (by decide) (Nat.le_of_ble_eq_true rfl) (Nat.le_of_ble_eq_true rfl) (fun q => ?_)
  refine ny_astore_n (L' := [(0, .ref q)]) (pc' := 5) dX8_packedWords_4 rfl rfl (by decide) rfl ?_
  refine ny_iconst (pc' := 6) dX8_packedWords_5 rfl kiconst_0 ?_
  refine ny_istore_n (L' := [(1, .int 0), (0, .ref q)]) (pc' := 7) dX8_packedWords_6 rfl rfl (by decide) rfl ?_
  refine ny_iconst (pc' := 8) dX8_packedWords_7 rfl kiconst_0 ?_
  refine ny_istore_n (L' := [(2, .int 0), (1, .int 0), (0, .ref q)]) (pc' := 9) dX8_packedWords_8 rfl rfl (by decide) rfl ?_
  have HL : ∀ (r i : Nat), i ≤ 127 → 127 + 1 ≤ i + r → yR g A 6 1 22 YX8_packedWords 9 [(0, .ref q), (1, .int (nI (zpk i).1)), (2, .int (nI i))] [] [(q, .inl (g.2.1 1, 22, .inr (.inl (zpk i).2)))] (0 + 1) (0 + 22) (fun v w => ∃ q : Nat, v = some (.ref q) ∧ w = [(q, .inl (g.2.1 1, 22, .inr (.inl zpw)))]) := by
    intro r
    induction r with
    | zero => intro i h1 h2; omega
    | succ r ih =>
      intro i h1 h2
      refine ny_iload_n 2 (pc' := 10) dX8_packedWords_9 rfl rfl rfl ?_
      refine ny_ldcS (k0 := 0) (tx := "corner street person next follows goes drops leaves hires minute or and not alone ringed idle at after buns left behind number ") (pc' := 12) dX8_packedWords_10 rfl (by decide +kernel) ?_
      refine ny_VS1 (pc' := 15) (z := YJ0_length_8abf5) (As := []) dX8_packedWords_12 rfl mlX8_25 lkJ0_length_8abf5 rfl (by decide) rfl rfl (Nat.le_of_ble_eq_true rfl) (Nat.le_of_ble_eq_true rfl) (Nat.le_of_ble_eq_true rfl) (Nat.le_of_ble_eq_true rfl) (MS_len g 0 (by decide)) ?_
      refine ny_icmp_ge (tgt := 59) (pc' := 18) dX8_packedWords_15 rfl (by decide) (fun c => ?_) (fun c => ?_)
      · have e : i = 127 := by
          have := (nI_leI (a := 127) (b := i) (by decide) (by omega)).mp c
          omega
        subst e
        refine ny_aload_n 0 (pc' := 60) dX8_packedWords_59 rfl rfl rfl ?_
        exact ny_aret dX8_packedWords_60 rfl (Or.inr ⟨_, rfl⟩) (Nat.le_of_ble_eq_true rfl) (Nat.le_of_ble_eq_true rfl) ⟨q, rfl, rfl⟩
      · have hi : i < 127 := by
          rcases Nat.lt_or_ge i 127 with z | z
          · exact z
          · exact absurd ((nI_leI (a := 127) (b := i) (by decide) (by omega)).mpr z) c
        have hk : (zpk i).1 < 22 := by rw [zpkn_eq]; exact zpk_lt i hi
        refine ny_iload_n 1 (pc' := 19) dX8_packedWords_18 rfl rfl rfl ?_
        refine ny_bipush (pc' := 21) dX8_packedWords_19 rfl kbipush_22 ?_
        refine ny_icmp_ge (tgt := 59) (pc' := 24) dX8_packedWords_21 rfl (by decide) (fun c => absurd c (nI_ge (b := 22) hk (by decide))) (fun _ => ?_)
        refine ny_ldcS (k0 := 0) (tx := "corner street person next follows goes drops leaves hires minute or and not alone ringed idle at after buns left behind number ") (pc' := 26) dX8_packedWords_24 rfl (by decide +kernel) ?_
        refine ny_iload_n 2 (pc' := 27) dX8_packedWords_26 rfl rfl rfl ?_
        have hch : zrd (zchr 0) (zSL.getD 0 0) (nI i) = some (zchr 0 i) := by
          have hz : zin (nI i) (zSL.getD 0 0) = true := by
            have h3 : zSL.getD 0 0 = 127 := rfl
            simp only [zin, Bool.and_eq_true, decide_eq_true_eq]
            exact ⟨nI_pos' (by omega), by rw [nI_clamp (by omega), h3]; exact hi⟩
          exact zrdK hz (nI_clamp (by omega))
        refine ny_VS1 (pc' := 30) (z := YJ0_charAt_5068e) (As := [.int (nI i)]) dX8_packedWords_27 rfl mlX8_31 lkJ0_charAt_5068e rfl (by decide) rfl rfl (Nat.le_of_ble_eq_true rfl) (Nat.le_of_ble_eq_true rfl) (Nat.le_of_ble_eq_true rfl) (Nat.le_of_ble_eq_true rfl) (MS_chr g 0 (by decide) (nI i) hch) ?_
        refine ny_istore_n (L' := [(3, .int (zchr 0 i)), (0, .ref q), (1, .int (nI (zpk i).1)), (2, .int (nI i))]) (pc' := 31) dX8_packedWords_30 rfl rfl (by decide) rfl ?_
        refine ny_iload_n 0 (pc' := 32) dX8_packedWords_31 rfl rfl rfl ?_
        refine ny_bipush (pc' := 34) dX8_packedWords_32 rfl kbipush_32 ?_
        refine ny_icmp_ne (tgt := 43) (pc' := 37) dX8_packedWords_34 rfl (by decide) (fun c2 => ?_) (fun c2 => ?_)
        · have e1 : zpk (i + 1) = ((zpk i).1, vp_updL (zpk i).2 (zpk i).1 ((zpk i).2 (zpk i).1 * 32 + ((zchr 0 i - 97) + 1).toInt64)) := by
            rw [zpk, if_neg c2]
          refine ny_aload_n 1 (pc' := 44) dX8_packedWords_43 rfl rfl rfl ?_
          refine ny_iload_n 2 (pc' := 45) dX8_packedWords_44 rfl rfl rfl ?_
          refine ny_aload_n 1 (pc' := 46) dX8_packedWords_45 rfl rfl rfl ?_
          refine ny_iload_n 2 (pc' := 47) dX8_packedWords_46 rfl rfl rfl ?_
          refine ny_lald (i := 0) (pc' := 48) dX8_packedWords_47 rfl rfl (vp_in_nI hk (by decide)) ?_
          refine ny_iload_n 0 (pc' := 49) dX8_packedWords_48 rfl rfl rfl ?_
          refine ny_S1 (pc' := 52) (z := YX8_withLetter) (As := [.long ((zpk i).2 (nI (zpk i).1).toNatClampNeg), .int (zchr 0 i)]) dX8_packedWords_49 rfl mlX8_35 lkX8_withLetter rfl rfl (Nat.le_of_ble_eq_true rfl) (Nat.le_of_ble_eq_true rfl) (Nat.le_of_ble_eq_true rfl) (Nat.le_of_ble_eq_true rfl) (c_let g _ _) ?_
          refine ny_last (i := 0) (ws' := [(q, .inl (g.2.1 1, 22, .inr (.inl (zpk (i + 1)).2)))]) (pc' := 53) dX8_packedWords_52 rfl rfl (vp_in_nI hk (by decide)) (by rw [nI_clamp (by omega), e1]; rfl) ?_
          refine ny_iinc 3 (v := nI (i + 1)) (L' := [(2, .int (nI (i + 1))), (3, .int (zchr 0 i)), (0, .ref q), (1, .int (nI (zpk i).1))]) (pc' := 56) dX8_packedWords_53 rfl rfl (by rw [ci1]; exact nI_1 i) (by decide) rfl ?_
          refine ny_goto (tgt := 9) dX8_packedWords_56 (by decide) ?_
          refine ny_loc [2, 3, 0] rfl ?_
          have h5 := ih (i + 1) (by omega) (by omega)
          rw [show (zpk (i + 1)).1 = (zpk i).1 by rw [e1]] at h5
          exact h5
        · have e1 : zpk (i + 1) = ((zpk i).1 + 1, (zpk i).2) := by rw [zpk, if_pos c2]
          refine ny_iinc 2 (v := nI ((zpk i).1 + 1)) (L' := [(1, .int (nI ((zpk i).1 + 1))), (3, .int (zchr 0 i)), (0, .ref q), (2, .int (nI i))]) (pc' := 40) dX8_packedWords_37 rfl rfl (by rw [ci1]; exact nI_1 _) (by decide) rfl ?_
          refine ny_goto (tgt := 53) dX8_packedWords_40 (by decide) ?_
          refine ny_iinc 3 (v := nI (i + 1)) (L' := [(2, .int (nI (i + 1))), (1, .int (nI ((zpk i).1 + 1))), (3, .int (zchr 0 i)), (0, .ref q)]) (pc' := 56) dX8_packedWords_53 rfl rfl (by rw [ci1]; exact nI_1 i) (by decide) rfl ?_
          refine ny_goto (tgt := 9) dX8_packedWords_56 (by decide) ?_
          refine ny_loc [3, 1, 0] rfl ?_
          have h5 := ih (i + 1) (by omega) (by omega)
          rw [e1] at h5
          exact h5
  refine ny_loc [2, 1, 0] rfl ?_
  exact HL 128 0 (by omega) (by omega)
def wX10 (g : yG) (a : Nat → Nat) : va_W := [(a 0, .inr (10, [.ref (a 1), .int 0])),
  (a 1, .inl (g.2.1 0, 940, .inl (fun _ => 0)))]
def wX8 (g : yG) (a : Nat → Nat) (t : Nat) : va_W := [(a 0, .inr (8, [.ref (t), .ref (a 1), .int 0, .int 0, .int 0, .int 0, .long 0, .int 0, .int 0])),
  (a 1, .inl (g.2.1 1, 22, .inr (.inl zpw)))]
def wX7 (g : yG) (a : Nat → Nat) : va_W := [(a 0, .inr (7, [.ref (a 1), .ref (a 2), .ref (a 3), .ref (a 4), .int 0, .int 0, .int 0])),
  (a 1, .inl (g.2.1 1, 8, .inr (.inl (fun _ => 0)))),
  (a 2, .inl (g.2.1 1, 6, .inr (.inl (fun _ => 0)))),
  (a 3, .inl (g.2.1 0, 8, .inl (fun _ => 0))),
  (a 4, .inl (g.2.1 0, 64, .inl (fun _ => 0)))]
def wX1 (g : yG) (a : Nat → Nat) : va_W := [(a 0, .inr (1, [.ref (a 1), .ref (a 2), .ref (a 3), .ref (a 4), .ref (a 5), .ref (a 6), .ref (a 7), .ref (a 8), .ref (a 9), .int 0, .int 0])),
  (a 1, .inl (g.2.1 0, 36, .inl (fun j => if j < 36 then -1 else 0))),
  (a 2, .inl (g.2.1 0, 6, .inl (fun _ => 0))),
  (a 3, .inl (g.2.1 0, 6, .inl (fun j => if j < 6 then -1 else 0))),
  (a 4, .inl (g.2.1 0, 6, .inl (fun j => if j < 6 then -1 else 0))),
  (a 5, .inl (g.2.1 0, 48, .inl (fun _ => 0))),
  (a 6, .inl (g.2.1 0, 6, .inl (fun _ => 0))),
  (a 7, .inl (g.2.1 0, 8, .inl (fun _ => 0))),
  (a 8, .inl (g.2.1 0, 8, .inl (fun _ => 0))),
  (a 9, .inl (g.2.1 0, 6, .inl (fun _ => 0)))]
def wX9 (g : yG) (a : Nat → Nat) : va_W := [(a 0, .inr (9, [.ref (a 1), .ref (a 2), .ref (a 3), .ref (a 4), .ref (a 5), .int 0, .int 0, .int 0, .int 0, .int 0, .int 0])),
  (a 1, .inl (g.2.1 0, 40, .inl (fun _ => 0))),
  (a 2, .inl (g.2.1 0, 40, .inl (fun _ => 0))),
  (a 3, .inl (g.2.1 0, 40, .inl (fun _ => 0))),
  (a 4, .inl (g.2.1 0, 40, .inl (fun _ => 0))),
  (a 5, .inl (g.2.1 0, 40, .inl (fun _ => 0)))]
def wX3 (g : yG) (a : Nat → Nat) : va_W := [(a 0, .inr (3, [.ref (a 1), .int 0, .int 0])),
  (a 1, .inl (g.2.1 4, 8, .inr (.inr (.inr (.inr (fun j => ([a 2, a 12, a 22, a 32, a 42, a 52, a 62, a 72] : List Nat)[j]?)))))),
  (a 2, .inr (1, [.ref (a 3), .ref (a 4), .ref (a 5), .ref (a 6), .ref (a 7), .ref (a 8), .ref (a 9), .ref (a 10), .ref (a 11), .int 0, .int 0])),
  (a 3, .inl (g.2.1 0, 36, .inl (fun j => if j < 36 then -1 else 0))),
  (a 4, .inl (g.2.1 0, 6, .inl (fun _ => 0))),
  (a 5, .inl (g.2.1 0, 6, .inl (fun j => if j < 6 then -1 else 0))),
  (a 6, .inl (g.2.1 0, 6, .inl (fun j => if j < 6 then -1 else 0))),
  (a 7, .inl (g.2.1 0, 48, .inl (fun _ => 0))),
  (a 8, .inl (g.2.1 0, 6, .inl (fun _ => 0))),
  (a 9, .inl (g.2.1 0, 8, .inl (fun _ => 0))),
  (a 10, .inl (g.2.1 0, 8, .inl (fun _ => 0))),
  (a 11, .inl (g.2.1 0, 6, .inl (fun _ => 0))),
  (a 12, .inr (1, [.ref (a 13), .ref (a 14), .ref (a 15), .ref (a 16), .ref (a 17), .ref (a 18), .ref (a 19), .ref (a 20), .ref (a 21), .int 0, .int 0])),
  (a 13, .inl (g.2.1 0, 36, .inl (fun j => if j < 36 then -1 else 0))),
  (a 14, .inl (g.2.1 0, 6, .inl (fun _ => 0))),
  (a 15, .inl (g.2.1 0, 6, .inl (fun j => if j < 6 then -1 else 0))),
  (a 16, .inl (g.2.1 0, 6, .inl (fun j => if j < 6 then -1 else 0))),
  (a 17, .inl (g.2.1 0, 48, .inl (fun _ => 0))),
  (a 18, .inl (g.2.1 0, 6, .inl (fun _ => 0))),
  (a 19, .inl (g.2.1 0, 8, .inl (fun _ => 0))),
  (a 20, .inl (g.2.1 0, 8, .inl (fun _ => 0))),
  (a 21, .inl (g.2.1 0, 6, .inl (fun _ => 0))),
  (a 22, .inr (1, [.ref (a 23), .ref (a 24), .ref (a 25), .ref (a 26), .ref (a 27), .ref (a 28), .ref (a 29), .ref (a 30), .ref (a 31), .int 0, .int 0])),
  (a 23, .inl (g.2.1 0, 36, .inl (fun j => if j < 36 then -1 else 0))),
  (a 24, .inl (g.2.1 0, 6, .inl (fun _ => 0))),
  (a 25, .inl (g.2.1 0, 6, .inl (fun j => if j < 6 then -1 else 0))),
  (a 26, .inl (g.2.1 0, 6, .inl (fun j => if j < 6 then -1 else 0))),
  (a 27, .inl (g.2.1 0, 48, .inl (fun _ => 0))),
  (a 28, .inl (g.2.1 0, 6, .inl (fun _ => 0))),
  (a 29, .inl (g.2.1 0, 8, .inl (fun _ => 0))),
  (a 30, .inl (g.2.1 0, 8, .inl (fun _ => 0))),
  (a 31, .inl (g.2.1 0, 6, .inl (fun _ => 0))),
  (a 32, .inr (1, [.ref (a 33), .ref (a 34), .ref (a 35), .ref (a 36), .ref (a 37), .ref (a 38), .ref (a 39), .ref (a 40), .ref (a 41), .int 0, .int 0])),
  (a 33, .inl (g.2.1 0, 36, .inl (fun j => if j < 36 then -1 else 0))),
  (a 34, .inl (g.2.1 0, 6, .inl (fun _ => 0))),
  (a 35, .inl (g.2.1 0, 6, .inl (fun j => if j < 6 then -1 else 0))),
  (a 36, .inl (g.2.1 0, 6, .inl (fun j => if j < 6 then -1 else 0))),
  (a 37, .inl (g.2.1 0, 48, .inl (fun _ => 0))),
  (a 38, .inl (g.2.1 0, 6, .inl (fun _ => 0))),
  (a 39, .inl (g.2.1 0, 8, .inl (fun _ => 0))),
  (a 40, .inl (g.2.1 0, 8, .inl (fun _ => 0))),
  (a 41, .inl (g.2.1 0, 6, .inl (fun _ => 0))),
  (a 42, .inr (1, [.ref (a 43), .ref (a 44), .ref (a 45), .ref (a 46), .ref (a 47), .ref (a 48), .ref (a 49), .ref (a 50), .ref (a 51), .int 0, .int 0])),
  (a 43, .inl (g.2.1 0, 36, .inl (fun j => if j < 36 then -1 else 0))),
  (a 44, .inl (g.2.1 0, 6, .inl (fun _ => 0))),
  (a 45, .inl (g.2.1 0, 6, .inl (fun j => if j < 6 then -1 else 0))),
  (a 46, .inl (g.2.1 0, 6, .inl (fun j => if j < 6 then -1 else 0))),
  (a 47, .inl (g.2.1 0, 48, .inl (fun _ => 0))),
  (a 48, .inl (g.2.1 0, 6, .inl (fun _ => 0))),
  (a 49, .inl (g.2.1 0, 8, .inl (fun _ => 0))),
  (a 50, .inl (g.2.1 0, 8, .inl (fun _ => 0))),
  (a 51, .inl (g.2.1 0, 6, .inl (fun _ => 0))),
  (a 52, .inr (1, [.ref (a 53), .ref (a 54), .ref (a 55), .ref (a 56), .ref (a 57), .ref (a 58), .ref (a 59), .ref (a 60), .ref (a 61), .int 0, .int 0])),
  (a 53, .inl (g.2.1 0, 36, .inl (fun j => if j < 36 then -1 else 0))),
  (a 54, .inl (g.2.1 0, 6, .inl (fun _ => 0))),
  (a 55, .inl (g.2.1 0, 6, .inl (fun j => if j < 6 then -1 else 0))),
  (a 56, .inl (g.2.1 0, 6, .inl (fun j => if j < 6 then -1 else 0))),
  (a 57, .inl (g.2.1 0, 48, .inl (fun _ => 0))),
  (a 58, .inl (g.2.1 0, 6, .inl (fun _ => 0))),
  (a 59, .inl (g.2.1 0, 8, .inl (fun _ => 0))),
  (a 60, .inl (g.2.1 0, 8, .inl (fun _ => 0))),
  (a 61, .inl (g.2.1 0, 6, .inl (fun _ => 0))),
  (a 62, .inr (1, [.ref (a 63), .ref (a 64), .ref (a 65), .ref (a 66), .ref (a 67), .ref (a 68), .ref (a 69), .ref (a 70), .ref (a 71), .int 0, .int 0])),
  (a 63, .inl (g.2.1 0, 36, .inl (fun j => if j < 36 then -1 else 0))),
  (a 64, .inl (g.2.1 0, 6, .inl (fun _ => 0))),
  (a 65, .inl (g.2.1 0, 6, .inl (fun j => if j < 6 then -1 else 0))),
  (a 66, .inl (g.2.1 0, 6, .inl (fun j => if j < 6 then -1 else 0))),
  (a 67, .inl (g.2.1 0, 48, .inl (fun _ => 0))),
  (a 68, .inl (g.2.1 0, 6, .inl (fun _ => 0))),
  (a 69, .inl (g.2.1 0, 8, .inl (fun _ => 0))),
  (a 70, .inl (g.2.1 0, 8, .inl (fun _ => 0))),
  (a 71, .inl (g.2.1 0, 6, .inl (fun _ => 0))),
  (a 72, .inr (1, [.ref (a 73), .ref (a 74), .ref (a 75), .ref (a 76), .ref (a 77), .ref (a 78), .ref (a 79), .ref (a 80), .ref (a 81), .int 0, .int 0])),
  (a 73, .inl (g.2.1 0, 36, .inl (fun j => if j < 36 then -1 else 0))),
  (a 74, .inl (g.2.1 0, 6, .inl (fun _ => 0))),
  (a 75, .inl (g.2.1 0, 6, .inl (fun j => if j < 6 then -1 else 0))),
  (a 76, .inl (g.2.1 0, 6, .inl (fun j => if j < 6 then -1 else 0))),
  (a 77, .inl (g.2.1 0, 48, .inl (fun _ => 0))),
  (a 78, .inl (g.2.1 0, 6, .inl (fun _ => 0))),
  (a 79, .inl (g.2.1 0, 8, .inl (fun _ => 0))),
  (a 80, .inl (g.2.1 0, 8, .inl (fun _ => 0))),
  (a 81, .inl (g.2.1 0, 6, .inl (fun _ => 0)))]
def wX4 (g : yG) (a : Nat → Nat) : va_W := [(a 0, .inr (4, [.ref (a 1), .ref (a 6), .ref (a 16), .int 0])),
  (a 1, .inr (7, [.ref (a 2), .ref (a 3), .ref (a 4), .ref (a 5), .int 0, .int 0, .int 0])),
  (a 2, .inl (g.2.1 1, 8, .inr (.inl (fun _ => 0)))),
  (a 3, .inl (g.2.1 1, 6, .inr (.inl (fun _ => 0)))),
  (a 4, .inl (g.2.1 0, 8, .inl (fun _ => 0))),
  (a 5, .inl (g.2.1 0, 64, .inl (fun _ => 0))),
  (a 6, .inr (1, [.ref (a 7), .ref (a 8), .ref (a 9), .ref (a 10), .ref (a 11), .ref (a 12), .ref (a 13), .ref (a 14), .ref (a 15), .int 0, .int 0])),
  (a 7, .inl (g.2.1 0, 36, .inl (fun j => if j < 36 then -1 else 0))),
  (a 8, .inl (g.2.1 0, 6, .inl (fun _ => 0))),
  (a 9, .inl (g.2.1 0, 6, .inl (fun j => if j < 6 then -1 else 0))),
  (a 10, .inl (g.2.1 0, 6, .inl (fun j => if j < 6 then -1 else 0))),
  (a 11, .inl (g.2.1 0, 48, .inl (fun _ => 0))),
  (a 12, .inl (g.2.1 0, 6, .inl (fun _ => 0))),
  (a 13, .inl (g.2.1 0, 8, .inl (fun _ => 0))),
  (a 14, .inl (g.2.1 0, 8, .inl (fun _ => 0))),
  (a 15, .inl (g.2.1 0, 6, .inl (fun _ => 0))),
  (a 16, .inr (9, [.ref (a 17), .ref (a 18), .ref (a 19), .ref (a 20), .ref (a 21), .int 0, .int 0, .int 0, .int 0, .int 0, .int 0])),
  (a 17, .inl (g.2.1 0, 40, .inl (fun _ => 0))),
  (a 18, .inl (g.2.1 0, 40, .inl (fun _ => 0))),
  (a 19, .inl (g.2.1 0, 40, .inl (fun _ => 0))),
  (a 20, .inl (g.2.1 0, 40, .inl (fun _ => 0))),
  (a 21, .inl (g.2.1 0, 40, .inl (fun _ => 0)))]
def wX0 (g : yG) (a : Nat → Nat) : va_W := [(a 0, .inr (0, [.ref (a 1), .ref (a 2), .ref (a 3), .ref (a 4), .int 0, .int 0, .int 0, .int 0, .int 0, .int 0])),
  (a 1, .inl (g.2.1 0, 40, .inl (fun _ => 0))),
  (a 2, .inl (g.2.1 0, 40, .inl (fun _ => 0))),
  (a 3, .inl (g.2.1 0, 40, .inl (fun _ => 0))),
  (a 4, .inl (g.2.1 0, 40, .inl (fun _ => 0)))]
def wX6 (g : yG) (a : Nat → Nat) : va_W := [(a 0, .inr (6, [.ref (a 1), .ref (a 2), .int (-1), .int (-1)])),
  (a 1, .inl (g.2.1 0, 6, .inl (fun _ => 0))),
  (a 2, .inl (g.2.1 0, 6, .inl (fun j => if j < 6 then -1 else 0)))]
def wX2 (g : yG) (a : Nat → Nat) : va_W := [(a 0, .inr (2, [.int 0]))]
def wX5 (g : yG) (a : Nat → Nat) : va_W := [(a 0, .inr (5, [.ref (a 1), .int 0])),
  (a 1, .inl (g.2.1 0, 40, .inl (fun _ => 0)))]
theorem cX10 (g : yG) (h0 : Nat) : yK g 1 1 940 YX10_init [.ref h0] [(h0, .inr (10, [.null, .int 0]))] (fun v w => v = none ∧ ∃ a : Nat → Nat, a 0 = h0 ∧ w = wX10 g a) := by
  refine yK_of (by decide) (Nat.le_of_ble_eq_true rfl) (fun A => ?_)
  refine ny_loc [0] rfl ?_
  refine ny_aload_n 0 (pc' := 1) dX10_init_0 rfl rfl rfl ?_
  refine ny_obj (pc' := 4) dX10_init_1 rfl moX10_3 oiI oiC (Nat.le_of_ble_eq_true rfl) (Nat.le_of_ble_eq_true rfl) ?_
  refine ny_aload_n 0 (pc' := 5) dX10_init_4 rfl rfl rfl ?_
  refine ny_sipush (pc' := 8) dX10_init_5 rfl ksipush_940 ?_
  refine ny_newI (N := 940) (pc' := 10) dX10_init_8 rfl wA0 (by decide) (by decide) (by decide) (Nat.le_of_ble_eq_true rfl) (Nat.le_of_ble_eq_true rfl) (fun q1 => ?_)
  refine ny_eq (ws' := [(h0, .inr (10, [.null, .int 0])), (q1, .inl (g.2.1 0, 940, .inl (fun _ => 0)))]) rfl ?_
  refine ny_putF (i := 0) (ws' := [(h0, .inr (10, [.ref q1, .int 0])), (q1, .inl (g.2.1 0, 940, .inl (fun _ => 0)))]) (pc' := 13) dX10_init_10 rfl fFX10_11 rfl rfl rfl rfl (Nat.le_of_ble_eq_true rfl) rfl ?_
  exact ny_vret dX10_init_13 rfl (Nat.le_of_ble_eq_true rfl) (Nat.le_of_ble_eq_true rfl) ⟨rfl, fun i => ([h0, q1] : List Nat).getD i 0, rfl, rfl⟩
theorem cX8 (g : yG) (h0 : Nat) (t : Nat) : yK g 7 1 22 YX8_init [.ref h0, .ref t] [(h0, .inr (8, [.null, .null, .int 0, .int 0, .int 0, .int 0, .long 0, .int 0, .int 0]))] (fun v w => v = none ∧ ∃ a : Nat → Nat, a 0 = h0 ∧ w = wX8 g a t) := by
  refine yK_of (by decide) (Nat.le_of_ble_eq_true rfl) (fun A => ?_)
  refine ny_loc [0, 1] rfl ?_
  refine ny_aload_n 0 (pc' := 1) dX8_init_0 rfl rfl rfl ?_
  refine ny_obj (pc' := 4) dX8_init_1 rfl moX8_3 oiI oiC (Nat.le_of_ble_eq_true rfl) (Nat.le_of_ble_eq_true rfl) ?_
  refine ny_aload_n 0 (pc' := 5) dX8_init_4 rfl rfl rfl ?_
  refine ny_S (mc' := 1) (ms' := 22) (z := YX8_packedWords) (As := []) (wc := []) (wr := [(h0, .inr (8, [.null, .null, .int 0, .int 0, .int 0, .int 0, .long 0, .int 0, .int 0]))]) (pc' := 8) dX8_init_5 rfl mlX8_9 lkX8_packedWords rfl rfl (Nat.le_of_ble_eq_true rfl) (Nat.le_of_ble_eq_true rfl) (Nat.le_of_ble_eq_true rfl) (Nat.le_of_ble_eq_true rfl) [] [0] rfl rfl rfl rfl (by decide) (c_pack g) (fun v9 w9 hw => ?_)
  obtain ⟨q1, rfl, rfl⟩ := hw
  refine ny_eq (ws' := [(h0, .inr (8, [.null, .null, .int 0, .int 0, .int 0, .int 0, .long 0, .int 0, .int 0])), (q1, .inl (g.2.1 1, 22, .inr (.inl zpw)))]) rfl ?_
  refine ny_putF (i := 0) (ws' := [(h0, .inr (8, [.null, .ref q1, .int 0, .int 0, .int 0, .int 0, .long 0, .int 0, .int 0])), (q1, .inl (g.2.1 1, 22, .inr (.inl zpw)))]) (pc' := 11) dX8_init_8 rfl fFX8_15 rfl rfl rfl rfl (Nat.le_of_ble_eq_true rfl) rfl ?_
  refine ny_aload_n 0 (pc' := 12) dX8_init_11 rfl rfl rfl ?_
  refine ny_aload_n 1 (pc' := 13) dX8_init_12 rfl rfl rfl ?_
  refine ny_putF (i := 0) (ws' := [(h0, .inr (8, [.ref t, .ref q1, .int 0, .int 0, .int 0, .int 0, .long 0, .int 0, .int 0])), (q1, .inl (g.2.1 1, 22, .inr (.inl zpw)))]) (pc' := 16) dX8_init_13 rfl fFX8_19 rfl rfl rfl rfl (Nat.le_of_ble_eq_true rfl) rfl ?_
  exact ny_vret dX8_init_16 rfl (Nat.le_of_ble_eq_true rfl) (Nat.le_of_ble_eq_true rfl) ⟨rfl, fun i => ([h0, q1] : List Nat).getD i 0, rfl, rfl⟩
theorem cX7 (g : yG) (h0 : Nat) : yK g 1 4 86 YX7_init [.ref h0] [(h0, .inr (7, [.null, .null, .null, .null, .int 0, .int 0, .int 0]))] (fun v w => v = none ∧ ∃ a : Nat → Nat, a 0 = h0 ∧ w = wX7 g a) := by
  refine yK_of (by decide) (Nat.le_of_ble_eq_true rfl) (fun A => ?_)
  refine ny_loc [0] rfl ?_
  refine ny_aload_n 0 (pc' := 1) dX7_init_0 rfl rfl rfl ?_
  refine ny_obj (pc' := 4) dX7_init_1 rfl moX7_3 oiI oiC (Nat.le_of_ble_eq_true rfl) (Nat.le_of_ble_eq_true rfl) ?_
  refine ny_aload_n 0 (pc' := 5) dX7_init_4 rfl rfl rfl ?_
  refine ny_bipush (pc' := 7) dX7_init_5 rfl kbipush_8 ?_
  refine ny_newL (N := 8) (pc' := 9) dX7_init_7 rfl wA1 (by decide) (by decide) (by decide) (Nat.le_of_ble_eq_true rfl) (Nat.le_of_ble_eq_true rfl) (fun q1 => ?_)
  refine ny_eq (ws' := [(h0, .inr (7, [.null, .null, .null, .null, .int 0, .int 0, .int 0])), (q1, .inl (g.2.1 1, 8, .inr (.inl (fun _ => 0))))]) rfl ?_
  refine ny_putF (i := 0) (ws' := [(h0, .inr (7, [.ref q1, .null, .null, .null, .int 0, .int 0, .int 0])), (q1, .inl (g.2.1 1, 8, .inr (.inl (fun _ => 0))))]) (pc' := 12) dX7_init_9 rfl fFX7_9 rfl rfl rfl rfl (Nat.le_of_ble_eq_true rfl) rfl ?_
  refine ny_aload_n 0 (pc' := 13) dX7_init_12 rfl rfl rfl ?_
  refine ny_bipush (pc' := 15) dX7_init_13 rfl kbipush_6 ?_
  refine ny_newL (N := 6) (pc' := 17) dX7_init_15 rfl wA1 (by decide) (by decide) (by decide) (Nat.le_of_ble_eq_true rfl) (Nat.le_of_ble_eq_true rfl) (fun q2 => ?_)
  refine ny_eq (ws' := [(h0, .inr (7, [.ref q1, .null, .null, .null, .int 0, .int 0, .int 0])), (q1, .inl (g.2.1 1, 8, .inr (.inl (fun _ => 0)))), (q2, .inl (g.2.1 1, 6, .inr (.inl (fun _ => 0))))]) rfl ?_
  refine ny_putF (i := 0) (ws' := [(h0, .inr (7, [.ref q1, .ref q2, .null, .null, .int 0, .int 0, .int 0])), (q1, .inl (g.2.1 1, 8, .inr (.inl (fun _ => 0)))), (q2, .inl (g.2.1 1, 6, .inr (.inl (fun _ => 0))))]) (pc' := 20) dX7_init_17 rfl fFX7_15 rfl rfl rfl rfl (Nat.le_of_ble_eq_true rfl) rfl ?_
  refine ny_aload_n 0 (pc' := 21) dX7_init_20 rfl rfl rfl ?_
  refine ny_bipush (pc' := 23) dX7_init_21 rfl kbipush_8 ?_
  refine ny_newI (N := 8) (pc' := 25) dX7_init_23 rfl wA0 (by decide) (by decide) (by decide) (Nat.le_of_ble_eq_true rfl) (Nat.le_of_ble_eq_true rfl) (fun q3 => ?_)
  refine ny_eq (ws' := [(h0, .inr (7, [.ref q1, .ref q2, .null, .null, .int 0, .int 0, .int 0])), (q1, .inl (g.2.1 1, 8, .inr (.inl (fun _ => 0)))), (q2, .inl (g.2.1 1, 6, .inr (.inl (fun _ => 0)))), (q3, .inl (g.2.1 0, 8, .inl (fun _ => 0)))]) rfl ?_
  refine ny_putF (i := 0) (ws' := [(h0, .inr (7, [.ref q1, .ref q2, .ref q3, .null, .int 0, .int 0, .int 0])), (q1, .inl (g.2.1 1, 8, .inr (.inl (fun _ => 0)))), (q2, .inl (g.2.1 1, 6, .inr (.inl (fun _ => 0)))), (q3, .inl (g.2.1 0, 8, .inl (fun _ => 0)))]) (pc' := 28) dX7_init_25 rfl fFX7_18 rfl rfl rfl rfl (Nat.le_of_ble_eq_true rfl) rfl ?_
  refine ny_aload_n 0 (pc' := 29) dX7_init_28 rfl rfl rfl ?_
  refine ny_bipush (pc' := 31) dX7_init_29 rfl kbipush_64 ?_
  refine ny_newI (N := 64) (pc' := 33) dX7_init_31 rfl wA0 (by decide) (by decide) (by decide) (Nat.le_of_ble_eq_true rfl) (Nat.le_of_ble_eq_true rfl) (fun q4 => ?_)
  refine ny_eq (ws' := [(h0, .inr (7, [.ref q1, .ref q2, .ref q3, .null, .int 0, .int 0, .int 0])), (q1, .inl (g.2.1 1, 8, .inr (.inl (fun _ => 0)))), (q2, .inl (g.2.1 1, 6, .inr (.inl (fun _ => 0)))), (q3, .inl (g.2.1 0, 8, .inl (fun _ => 0))), (q4, .inl (g.2.1 0, 64, .inl (fun _ => 0)))]) rfl ?_
  refine ny_putF (i := 0) (ws' := [(h0, .inr (7, [.ref q1, .ref q2, .ref q3, .ref q4, .int 0, .int 0, .int 0])), (q1, .inl (g.2.1 1, 8, .inr (.inl (fun _ => 0)))), (q2, .inl (g.2.1 1, 6, .inr (.inl (fun _ => 0)))), (q3, .inl (g.2.1 0, 8, .inl (fun _ => 0))), (q4, .inl (g.2.1 0, 64, .inl (fun _ => 0)))]) (pc' := 36) dX7_init_33 rfl fFX7_22 rfl rfl rfl rfl (Nat.le_of_ble_eq_true rfl) rfl ?_
  exact ny_vret dX7_init_36 rfl (Nat.le_of_ble_eq_true rfl) (Nat.le_of_ble_eq_true rfl) ⟨rfl, fun i => ([h0, q1, q2, q3, q4] : List Nat).getD i 0, rfl, rfl⟩
theorem cX1 (g : yG) (h0 : Nat) : yK g 2 9 130 YX1_init [.ref h0] [(h0, .inr (1, [.null, .null, .null, .null, .null, .null, .null, .null, .null, .int 0, .int 0]))] (fun v w => v = none ∧ ∃ a : Nat → Nat, a 0 = h0 ∧ w = wX1 g a) := by
  refine yK_of (by decide) (Nat.le_of_ble_eq_true rfl) (fun A => ?_)
  refine ny_loc [0] rfl ?_
  refine ny_aload_n 0 (pc' := 1) dX1_init_0 rfl rfl rfl ?_
  refine ny_obj (pc' := 4) dX1_init_1 rfl moX1_3 oiI oiC (Nat.le_of_ble_eq_true rfl) (Nat.le_of_ble_eq_true rfl) ?_
  refine ny_aload_n 0 (pc' := 5) dX1_init_4 rfl rfl rfl ?_
  refine ny_bipush (pc' := 7) dX1_init_5 rfl kbipush_36 ?_
  refine ny_newI (N := 36) (pc' := 9) dX1_init_7 rfl wA0 (by decide) (by decide) (by decide) (Nat.le_of_ble_eq_true rfl) (Nat.le_of_ble_eq_true rfl) (fun q1 => ?_)
  refine ny_eq (ws' := [(h0, .inr (1, [.null, .null, .null, .null, .null, .null, .null, .null, .null, .int 0, .int 0])), (q1, .inl (g.2.1 0, 36, .inl (fun _ => 0)))]) rfl ?_
  refine ny_putF (i := 0) (ws' := [(h0, .inr (1, [.ref q1, .null, .null, .null, .null, .null, .null, .null, .null, .int 0, .int 0])), (q1, .inl (g.2.1 0, 36, .inl (fun _ => 0)))]) (pc' := 12) dX1_init_9 rfl fFX1_9 rfl rfl rfl rfl (Nat.le_of_ble_eq_true rfl) rfl ?_
  refine ny_aload_n 0 (pc' := 13) dX1_init_12 rfl rfl rfl ?_
  refine ny_bipush (pc' := 15) dX1_init_13 rfl kbipush_6 ?_
  refine ny_newI (N := 6) (pc' := 17) dX1_init_15 rfl wA0 (by decide) (by decide) (by decide) (Nat.le_of_ble_eq_true rfl) (Nat.le_of_ble_eq_true rfl) (fun q2 => ?_)
  refine ny_eq (ws' := [(h0, .inr (1, [.ref q1, .null, .null, .null, .null, .null, .null, .null, .null, .int 0, .int 0])), (q1, .inl (g.2.1 0, 36, .inl (fun _ => 0))), (q2, .inl (g.2.1 0, 6, .inl (fun _ => 0)))]) rfl ?_
  refine ny_putF (i := 0) (ws' := [(h0, .inr (1, [.ref q1, .ref q2, .null, .null, .null, .null, .null, .null, .null, .int 0, .int 0])), (q1, .inl (g.2.1 0, 36, .inl (fun _ => 0))), (q2, .inl (g.2.1 0, 6, .inl (fun _ => 0)))]) (pc' := 20) dX1_init_17 rfl fFX1_15 rfl rfl rfl rfl (Nat.le_of_ble_eq_true rfl) rfl ?_
  refine ny_aload_n 0 (pc' := 21) dX1_init_20 rfl rfl rfl ?_
  refine ny_bipush (pc' := 23) dX1_init_21 rfl kbipush_6 ?_
  refine ny_newI (N := 6) (pc' := 25) dX1_init_23 rfl wA0 (by decide) (by decide) (by decide) (Nat.le_of_ble_eq_true rfl) (Nat.le_of_ble_eq_true rfl) (fun q3 => ?_)
  refine ny_eq (ws' := [(h0, .inr (1, [.ref q1, .ref q2, .null, .null, .null, .null, .null, .null, .null, .int 0, .int 0])), (q1, .inl (g.2.1 0, 36, .inl (fun _ => 0))), (q2, .inl (g.2.1 0, 6, .inl (fun _ => 0))), (q3, .inl (g.2.1 0, 6, .inl (fun _ => 0)))]) rfl ?_
  refine ny_putF (i := 0) (ws' := [(h0, .inr (1, [.ref q1, .ref q2, .ref q3, .null, .null, .null, .null, .null, .null, .int 0, .int 0])), (q1, .inl (g.2.1 0, 36, .inl (fun _ => 0))), (q2, .inl (g.2.1 0, 6, .inl (fun _ => 0))), (q3, .inl (g.2.1 0, 6, .inl (fun _ => 0)))]) (pc' := 28) dX1_init_25 rfl fFX1_18 rfl rfl rfl rfl (Nat.le_of_ble_eq_true rfl) rfl ?_
  refine ny_aload_n 0 (pc' := 29) dX1_init_28 rfl rfl rfl ?_
  refine ny_bipush (pc' := 31) dX1_init_29 rfl kbipush_6 ?_
  refine ny_newI (N := 6) (pc' := 33) dX1_init_31 rfl wA0 (by decide) (by decide) (by decide) (Nat.le_of_ble_eq_true rfl) (Nat.le_of_ble_eq_true rfl) (fun q4 => ?_)
  refine ny_eq (ws' := [(h0, .inr (1, [.ref q1, .ref q2, .ref q3, .null, .null, .null, .null, .null, .null, .int 0, .int 0])), (q1, .inl (g.2.1 0, 36, .inl (fun _ => 0))), (q2, .inl (g.2.1 0, 6, .inl (fun _ => 0))), (q3, .inl (g.2.1 0, 6, .inl (fun _ => 0))), (q4, .inl (g.2.1 0, 6, .inl (fun _ => 0)))]) rfl ?_
  refine ny_putF (i := 0) (ws' := [(h0, .inr (1, [.ref q1, .ref q2, .ref q3, .ref q4, .null, .null, .null, .null, .null, .int 0, .int 0])), (q1, .inl (g.2.1 0, 36, .inl (fun _ => 0))), (q2, .inl (g.2.1 0, 6, .inl (fun _ => 0))), (q3, .inl (g.2.1 0, 6, .inl (fun _ => 0))), (q4, .inl (g.2.1 0, 6, .inl (fun _ => 0)))]) (pc' := 36) dX1_init_33 rfl fFX1_21 rfl rfl rfl rfl (Nat.le_of_ble_eq_true rfl) rfl ?_
  refine ny_aload_n 0 (pc' := 37) dX1_init_36 rfl rfl rfl ?_
  refine ny_bipush (pc' := 39) dX1_init_37 rfl kbipush_48 ?_
  refine ny_newI (N := 48) (pc' := 41) dX1_init_39 rfl wA0 (by decide) (by decide) (by decide) (Nat.le_of_ble_eq_true rfl) (Nat.le_of_ble_eq_true rfl) (fun q5 => ?_)
  refine ny_eq (ws' := [(h0, .inr (1, [.ref q1, .ref q2, .ref q3, .ref q4, .null, .null, .null, .null, .null, .int 0, .int 0])), (q1, .inl (g.2.1 0, 36, .inl (fun _ => 0))), (q2, .inl (g.2.1 0, 6, .inl (fun _ => 0))), (q3, .inl (g.2.1 0, 6, .inl (fun _ => 0))), (q4, .inl (g.2.1 0, 6, .inl (fun _ => 0))), (q5, .inl (g.2.1 0, 48, .inl (fun _ => 0)))]) rfl ?_
  refine ny_putF (i := 0) (ws' := [(h0, .inr (1, [.ref q1, .ref q2, .ref q3, .ref q4, .ref q5, .null, .null, .null, .null, .int 0, .int 0])), (q1, .inl (g.2.1 0, 36, .inl (fun _ => 0))), (q2, .inl (g.2.1 0, 6, .inl (fun _ => 0))), (q3, .inl (g.2.1 0, 6, .inl (fun _ => 0))), (q4, .inl (g.2.1 0, 6, .inl (fun _ => 0))), (q5, .inl (g.2.1 0, 48, .inl (fun _ => 0)))]) (pc' := 44) dX1_init_41 rfl fFX1_24 rfl rfl rfl rfl (Nat.le_of_ble_eq_true rfl) rfl ?_
  refine ny_aload_n 0 (pc' := 45) dX1_init_44 rfl rfl rfl ?_
  refine ny_bipush (pc' := 47) dX1_init_45 rfl kbipush_6 ?_
  refine ny_newI (N := 6) (pc' := 49) dX1_init_47 rfl wA0 (by decide) (by decide) (by decide) (Nat.le_of_ble_eq_true rfl) (Nat.le_of_ble_eq_true rfl) (fun q6 => ?_)
  refine ny_eq (ws' := [(h0, .inr (1, [.ref q1, .ref q2, .ref q3, .ref q4, .ref q5, .null, .null, .null, .null, .int 0, .int 0])), (q1, .inl (g.2.1 0, 36, .inl (fun _ => 0))), (q2, .inl (g.2.1 0, 6, .inl (fun _ => 0))), (q3, .inl (g.2.1 0, 6, .inl (fun _ => 0))), (q4, .inl (g.2.1 0, 6, .inl (fun _ => 0))), (q5, .inl (g.2.1 0, 48, .inl (fun _ => 0))), (q6, .inl (g.2.1 0, 6, .inl (fun _ => 0)))]) rfl ?_
  refine ny_putF (i := 0) (ws' := [(h0, .inr (1, [.ref q1, .ref q2, .ref q3, .ref q4, .ref q5, .ref q6, .null, .null, .null, .int 0, .int 0])), (q1, .inl (g.2.1 0, 36, .inl (fun _ => 0))), (q2, .inl (g.2.1 0, 6, .inl (fun _ => 0))), (q3, .inl (g.2.1 0, 6, .inl (fun _ => 0))), (q4, .inl (g.2.1 0, 6, .inl (fun _ => 0))), (q5, .inl (g.2.1 0, 48, .inl (fun _ => 0))), (q6, .inl (g.2.1 0, 6, .inl (fun _ => 0)))]) (pc' := 52) dX1_init_49 rfl fFX1_27 rfl rfl rfl rfl (Nat.le_of_ble_eq_true rfl) rfl ?_
  refine ny_aload_n 0 (pc' := 53) dX1_init_52 rfl rfl rfl ?_
  refine ny_bipush (pc' := 55) dX1_init_53 rfl kbipush_8 ?_
  refine ny_newI (N := 8) (pc' := 57) dX1_init_55 rfl wA0 (by decide) (by decide) (by decide) (Nat.le_of_ble_eq_true rfl) (Nat.le_of_ble_eq_true rfl) (fun q7 => ?_)
  refine ny_eq (ws' := [(h0, .inr (1, [.ref q1, .ref q2, .ref q3, .ref q4, .ref q5, .ref q6, .null, .null, .null, .int 0, .int 0])), (q1, .inl (g.2.1 0, 36, .inl (fun _ => 0))), (q2, .inl (g.2.1 0, 6, .inl (fun _ => 0))), (q3, .inl (g.2.1 0, 6, .inl (fun _ => 0))), (q4, .inl (g.2.1 0, 6, .inl (fun _ => 0))), (q5, .inl (g.2.1 0, 48, .inl (fun _ => 0))), (q6, .inl (g.2.1 0, 6, .inl (fun _ => 0))), (q7, .inl (g.2.1 0, 8, .inl (fun _ => 0)))]) rfl ?_
  refine ny_putF (i := 0) (ws' := [(h0, .inr (1, [.ref q1, .ref q2, .ref q3, .ref q4, .ref q5, .ref q6, .ref q7, .null, .null, .int 0, .int 0])), (q1, .inl (g.2.1 0, 36, .inl (fun _ => 0))), (q2, .inl (g.2.1 0, 6, .inl (fun _ => 0))), (q3, .inl (g.2.1 0, 6, .inl (fun _ => 0))), (q4, .inl (g.2.1 0, 6, .inl (fun _ => 0))), (q5, .inl (g.2.1 0, 48, .inl (fun _ => 0))), (q6, .inl (g.2.1 0, 6, .inl (fun _ => 0))), (q7, .inl (g.2.1 0, 8, .inl (fun _ => 0)))]) (pc' := 60) dX1_init_57 rfl fFX1_30 rfl rfl rfl rfl (Nat.le_of_ble_eq_true rfl) rfl ?_
  refine ny_aload_n 0 (pc' := 61) dX1_init_60 rfl rfl rfl ?_
  refine ny_bipush (pc' := 63) dX1_init_61 rfl kbipush_8 ?_
  refine ny_newI (N := 8) (pc' := 65) dX1_init_63 rfl wA0 (by decide) (by decide) (by decide) (Nat.le_of_ble_eq_true rfl) (Nat.le_of_ble_eq_true rfl) (fun q8 => ?_)
  refine ny_eq (ws' := [(h0, .inr (1, [.ref q1, .ref q2, .ref q3, .ref q4, .ref q5, .ref q6, .ref q7, .null, .null, .int 0, .int 0])), (q1, .inl (g.2.1 0, 36, .inl (fun _ => 0))), (q2, .inl (g.2.1 0, 6, .inl (fun _ => 0))), (q3, .inl (g.2.1 0, 6, .inl (fun _ => 0))), (q4, .inl (g.2.1 0, 6, .inl (fun _ => 0))), (q5, .inl (g.2.1 0, 48, .inl (fun _ => 0))), (q6, .inl (g.2.1 0, 6, .inl (fun _ => 0))), (q7, .inl (g.2.1 0, 8, .inl (fun _ => 0))), (q8, .inl (g.2.1 0, 8, .inl (fun _ => 0)))]) rfl ?_
  refine ny_putF (i := 0) (ws' := [(h0, .inr (1, [.ref q1, .ref q2, .ref q3, .ref q4, .ref q5, .ref q6, .ref q7, .ref q8, .null, .int 0, .int 0])), (q1, .inl (g.2.1 0, 36, .inl (fun _ => 0))), (q2, .inl (g.2.1 0, 6, .inl (fun _ => 0))), (q3, .inl (g.2.1 0, 6, .inl (fun _ => 0))), (q4, .inl (g.2.1 0, 6, .inl (fun _ => 0))), (q5, .inl (g.2.1 0, 48, .inl (fun _ => 0))), (q6, .inl (g.2.1 0, 6, .inl (fun _ => 0))), (q7, .inl (g.2.1 0, 8, .inl (fun _ => 0))), (q8, .inl (g.2.1 0, 8, .inl (fun _ => 0)))]) (pc' := 68) dX1_init_65 rfl fFX1_33 rfl rfl rfl rfl (Nat.le_of_ble_eq_true rfl) rfl ?_
  refine ny_aload_n 0 (pc' := 69) dX1_init_68 rfl rfl rfl ?_
  refine ny_bipush (pc' := 71) dX1_init_69 rfl kbipush_6 ?_
  refine ny_newI (N := 6) (pc' := 73) dX1_init_71 rfl wA0 (by decide) (by decide) (by decide) (Nat.le_of_ble_eq_true rfl) (Nat.le_of_ble_eq_true rfl) (fun q9 => ?_)
  refine ny_eq (ws' := [(h0, .inr (1, [.ref q1, .ref q2, .ref q3, .ref q4, .ref q5, .ref q6, .ref q7, .ref q8, .null, .int 0, .int 0])), (q1, .inl (g.2.1 0, 36, .inl (fun _ => 0))), (q2, .inl (g.2.1 0, 6, .inl (fun _ => 0))), (q3, .inl (g.2.1 0, 6, .inl (fun _ => 0))), (q4, .inl (g.2.1 0, 6, .inl (fun _ => 0))), (q5, .inl (g.2.1 0, 48, .inl (fun _ => 0))), (q6, .inl (g.2.1 0, 6, .inl (fun _ => 0))), (q7, .inl (g.2.1 0, 8, .inl (fun _ => 0))), (q8, .inl (g.2.1 0, 8, .inl (fun _ => 0))), (q9, .inl (g.2.1 0, 6, .inl (fun _ => 0)))]) rfl ?_
  refine ny_putF (i := 0) (ws' := [(h0, .inr (1, [.ref q1, .ref q2, .ref q3, .ref q4, .ref q5, .ref q6, .ref q7, .ref q8, .ref q9, .int 0, .int 0])), (q1, .inl (g.2.1 0, 36, .inl (fun _ => 0))), (q2, .inl (g.2.1 0, 6, .inl (fun _ => 0))), (q3, .inl (g.2.1 0, 6, .inl (fun _ => 0))), (q4, .inl (g.2.1 0, 6, .inl (fun _ => 0))), (q5, .inl (g.2.1 0, 48, .inl (fun _ => 0))), (q6, .inl (g.2.1 0, 6, .inl (fun _ => 0))), (q7, .inl (g.2.1 0, 8, .inl (fun _ => 0))), (q8, .inl (g.2.1 0, 8, .inl (fun _ => 0))), (q9, .inl (g.2.1 0, 6, .inl (fun _ => 0)))]) (pc' := 76) dX1_init_73 rfl fFX1_36 rfl rfl rfl rfl (Nat.le_of_ble_eq_true rfl) rfl ?_
  refine ny_aload_n 0 (pc' := 77) dX1_init_76 rfl rfl rfl ?_
  refine ny_get (i := 0) (pc' := 80) dX1_init_77 rfl flX1_9 rfl rfl ?_
  refine ny_iconst (pc' := 81) dX1_init_80 rfl kiconst_m1 ?_
  refine ny_S (mc' := 0) (ms' := 0) (z := YJ7_fill_53178) (As := [.ref q1, .int (-1)]) (wc := [(q1, .inl (g.2.1 0, 36, .inl (fun _ => 0)))]) (wr := [(h0, .inr (1, [.ref q1, .ref q2, .ref q3, .ref q4, .ref q5, .ref q6, .ref q7, .ref q8, .ref q9, .int 0, .int 0])), (q2, .inl (g.2.1 0, 6, .inl (fun _ => 0))), (q3, .inl (g.2.1 0, 6, .inl (fun _ => 0))), (q4, .inl (g.2.1 0, 6, .inl (fun _ => 0))), (q5, .inl (g.2.1 0, 48, .inl (fun _ => 0))), (q6, .inl (g.2.1 0, 6, .inl (fun _ => 0))), (q7, .inl (g.2.1 0, 8, .inl (fun _ => 0))), (q8, .inl (g.2.1 0, 8, .inl (fun _ => 0))), (q9, .inl (g.2.1 0, 6, .inl (fun _ => 0)))]) (pc' := 84) dX1_init_81 rfl mlX1_39 lkJ7_fill_53178 rfl rfl (Nat.le_of_ble_eq_true rfl) (Nat.le_of_ble_eq_true rfl) (Nat.le_of_ble_eq_true rfl) (Nat.le_of_ble_eq_true rfl) [1] [0, 2, 3, 4, 5, 6, 7, 8, 9] rfl rfl rfl rfl (by decide) (c_fill g q1 36 (fun _ => 0) ((-1)) (by decide)) (fun v9 w9 hw => ?_)
  obtain ⟨rfl, rfl⟩ := hw
  refine ny_sub (ws' := [(h0, .inr (1, [.ref q1, .ref q2, .ref q3, .ref q4, .ref q5, .ref q6, .ref q7, .ref q8, .ref q9, .int 0, .int 0])), (q1, .inl (g.2.1 0, 36, .inl (fun j => if j < 36 then (-1) else 0))), (q2, .inl (g.2.1 0, 6, .inl (fun _ => 0))), (q3, .inl (g.2.1 0, 6, .inl (fun _ => 0))), (q4, .inl (g.2.1 0, 6, .inl (fun _ => 0))), (q5, .inl (g.2.1 0, 48, .inl (fun _ => 0))), (q6, .inl (g.2.1 0, 6, .inl (fun _ => 0))), (q7, .inl (g.2.1 0, 8, .inl (fun _ => 0))), (q8, .inl (g.2.1 0, 8, .inl (fun _ => 0))), (q9, .inl (g.2.1 0, 6, .inl (fun _ => 0)))]) [0, 9, 1, 2, 3, 4, 5, 6, 7, 8] rfl rfl rfl ?_
  refine ny_aload_n 0 (pc' := 85) dX1_init_84 rfl rfl rfl ?_
  refine ny_get (i := 0) (pc' := 88) dX1_init_85 rfl flX1_18 rfl rfl ?_
  refine ny_iconst (pc' := 89) dX1_init_88 rfl kiconst_m1 ?_
  refine ny_S (mc' := 0) (ms' := 0) (z := YJ7_fill_53178) (As := [.ref q3, .int (-1)]) (wc := [(q3, .inl (g.2.1 0, 6, .inl (fun _ => 0)))]) (wr := [(h0, .inr (1, [.ref q1, .ref q2, .ref q3, .ref q4, .ref q5, .ref q6, .ref q7, .ref q8, .ref q9, .int 0, .int 0])), (q1, .inl (g.2.1 0, 36, .inl (fun j => if j < 36 then (-1) else 0))), (q2, .inl (g.2.1 0, 6, .inl (fun _ => 0))), (q4, .inl (g.2.1 0, 6, .inl (fun _ => 0))), (q5, .inl (g.2.1 0, 48, .inl (fun _ => 0))), (q6, .inl (g.2.1 0, 6, .inl (fun _ => 0))), (q7, .inl (g.2.1 0, 8, .inl (fun _ => 0))), (q8, .inl (g.2.1 0, 8, .inl (fun _ => 0))), (q9, .inl (g.2.1 0, 6, .inl (fun _ => 0)))]) (pc' := 92) dX1_init_89 rfl mlX1_39 lkJ7_fill_53178 rfl rfl (Nat.le_of_ble_eq_true rfl) (Nat.le_of_ble_eq_true rfl) (Nat.le_of_ble_eq_true rfl) (Nat.le_of_ble_eq_true rfl) [3] [0, 1, 2, 4, 5, 6, 7, 8, 9] rfl rfl rfl rfl (by decide) (c_fill g q3 6 (fun _ => 0) ((-1)) (by decide)) (fun v9 w9 hw => ?_)
  obtain ⟨rfl, rfl⟩ := hw
  refine ny_sub (ws' := [(h0, .inr (1, [.ref q1, .ref q2, .ref q3, .ref q4, .ref q5, .ref q6, .ref q7, .ref q8, .ref q9, .int 0, .int 0])), (q1, .inl (g.2.1 0, 36, .inl (fun j => if j < 36 then (-1) else 0))), (q2, .inl (g.2.1 0, 6, .inl (fun _ => 0))), (q3, .inl (g.2.1 0, 6, .inl (fun j => if j < 6 then (-1) else 0))), (q4, .inl (g.2.1 0, 6, .inl (fun _ => 0))), (q5, .inl (g.2.1 0, 48, .inl (fun _ => 0))), (q6, .inl (g.2.1 0, 6, .inl (fun _ => 0))), (q7, .inl (g.2.1 0, 8, .inl (fun _ => 0))), (q8, .inl (g.2.1 0, 8, .inl (fun _ => 0))), (q9, .inl (g.2.1 0, 6, .inl (fun _ => 0)))]) [0, 1, 2, 9, 3, 4, 5, 6, 7, 8] rfl rfl rfl ?_
  refine ny_aload_n 0 (pc' := 93) dX1_init_92 rfl rfl rfl ?_
  refine ny_get (i := 0) (pc' := 96) dX1_init_93 rfl flX1_21 rfl rfl ?_
  refine ny_iconst (pc' := 97) dX1_init_96 rfl kiconst_m1 ?_
  refine ny_S (mc' := 0) (ms' := 0) (z := YJ7_fill_53178) (As := [.ref q4, .int (-1)]) (wc := [(q4, .inl (g.2.1 0, 6, .inl (fun _ => 0)))]) (wr := [(h0, .inr (1, [.ref q1, .ref q2, .ref q3, .ref q4, .ref q5, .ref q6, .ref q7, .ref q8, .ref q9, .int 0, .int 0])), (q1, .inl (g.2.1 0, 36, .inl (fun j => if j < 36 then (-1) else 0))), (q2, .inl (g.2.1 0, 6, .inl (fun _ => 0))), (q3, .inl (g.2.1 0, 6, .inl (fun j => if j < 6 then (-1) else 0))), (q5, .inl (g.2.1 0, 48, .inl (fun _ => 0))), (q6, .inl (g.2.1 0, 6, .inl (fun _ => 0))), (q7, .inl (g.2.1 0, 8, .inl (fun _ => 0))), (q8, .inl (g.2.1 0, 8, .inl (fun _ => 0))), (q9, .inl (g.2.1 0, 6, .inl (fun _ => 0)))]) (pc' := 100) dX1_init_97 rfl mlX1_39 lkJ7_fill_53178 rfl rfl (Nat.le_of_ble_eq_true rfl) (Nat.le_of_ble_eq_true rfl) (Nat.le_of_ble_eq_true rfl) (Nat.le_of_ble_eq_true rfl) [4] [0, 1, 2, 3, 5, 6, 7, 8, 9] rfl rfl rfl rfl (by decide) (c_fill g q4 6 (fun _ => 0) ((-1)) (by decide)) (fun v9 w9 hw => ?_)
  obtain ⟨rfl, rfl⟩ := hw
  refine ny_sub (ws' := [(h0, .inr (1, [.ref q1, .ref q2, .ref q3, .ref q4, .ref q5, .ref q6, .ref q7, .ref q8, .ref q9, .int 0, .int 0])), (q1, .inl (g.2.1 0, 36, .inl (fun j => if j < 36 then (-1) else 0))), (q2, .inl (g.2.1 0, 6, .inl (fun _ => 0))), (q3, .inl (g.2.1 0, 6, .inl (fun j => if j < 6 then (-1) else 0))), (q4, .inl (g.2.1 0, 6, .inl (fun j => if j < 6 then (-1) else 0))), (q5, .inl (g.2.1 0, 48, .inl (fun _ => 0))), (q6, .inl (g.2.1 0, 6, .inl (fun _ => 0))), (q7, .inl (g.2.1 0, 8, .inl (fun _ => 0))), (q8, .inl (g.2.1 0, 8, .inl (fun _ => 0))), (q9, .inl (g.2.1 0, 6, .inl (fun _ => 0)))]) [0, 1, 2, 3, 9, 4, 5, 6, 7, 8] rfl rfl rfl ?_
  exact ny_vret dX1_init_100 rfl (Nat.le_of_ble_eq_true rfl) (Nat.le_of_ble_eq_true rfl) ⟨rfl, fun i => ([h0, q1, q2, q3, q4, q5, q6, q7, q8, q9] : List Nat).getD i 0, rfl, rfl⟩
theorem cX9 (g : yG) (h0 : Nat) : yK g 1 5 200 YX9_init [.ref h0] [(h0, .inr (9, [.null, .null, .null, .null, .null, .int 0, .int 0, .int 0, .int 0, .int 0, .int 0]))] (fun v w => v = none ∧ ∃ a : Nat → Nat, a 0 = h0 ∧ w = wX9 g a) := by
  refine yK_of (by decide) (Nat.le_of_ble_eq_true rfl) (fun A => ?_)
  refine ny_loc [0] rfl ?_
  refine ny_aload_n 0 (pc' := 1) dX9_init_0 rfl rfl rfl ?_
  refine ny_obj (pc' := 4) dX9_init_1 rfl moX9_3 oiI oiC (Nat.le_of_ble_eq_true rfl) (Nat.le_of_ble_eq_true rfl) ?_
  refine ny_aload_n 0 (pc' := 5) dX9_init_4 rfl rfl rfl ?_
  refine ny_bipush (pc' := 7) dX9_init_5 rfl kbipush_40 ?_
  refine ny_newI (N := 40) (pc' := 9) dX9_init_7 rfl wA0 (by decide) (by decide) (by decide) (Nat.le_of_ble_eq_true rfl) (Nat.le_of_ble_eq_true rfl) (fun q1 => ?_)
  refine ny_eq (ws' := [(h0, .inr (9, [.null, .null, .null, .null, .null, .int 0, .int 0, .int 0, .int 0, .int 0, .int 0])), (q1, .inl (g.2.1 0, 40, .inl (fun _ => 0)))]) rfl ?_
  refine ny_putF (i := 0) (ws' := [(h0, .inr (9, [.ref q1, .null, .null, .null, .null, .int 0, .int 0, .int 0, .int 0, .int 0, .int 0])), (q1, .inl (g.2.1 0, 40, .inl (fun _ => 0)))]) (pc' := 12) dX9_init_9 rfl fFX9_11 rfl rfl rfl rfl (Nat.le_of_ble_eq_true rfl) rfl ?_
  refine ny_aload_n 0 (pc' := 13) dX9_init_12 rfl rfl rfl ?_
  refine ny_bipush (pc' := 15) dX9_init_13 rfl kbipush_40 ?_
  refine ny_newI (N := 40) (pc' := 17) dX9_init_15 rfl wA0 (by decide) (by decide) (by decide) (Nat.le_of_ble_eq_true rfl) (Nat.le_of_ble_eq_true rfl) (fun q2 => ?_)
  refine ny_eq (ws' := [(h0, .inr (9, [.ref q1, .null, .null, .null, .null, .int 0, .int 0, .int 0, .int 0, .int 0, .int 0])), (q1, .inl (g.2.1 0, 40, .inl (fun _ => 0))), (q2, .inl (g.2.1 0, 40, .inl (fun _ => 0)))]) rfl ?_
  refine ny_putF (i := 0) (ws' := [(h0, .inr (9, [.ref q1, .ref q2, .null, .null, .null, .int 0, .int 0, .int 0, .int 0, .int 0, .int 0])), (q1, .inl (g.2.1 0, 40, .inl (fun _ => 0))), (q2, .inl (g.2.1 0, 40, .inl (fun _ => 0)))]) (pc' := 20) dX9_init_17 rfl fFX9_15 rfl rfl rfl rfl (Nat.le_of_ble_eq_true rfl) rfl ?_
  refine ny_aload_n 0 (pc' := 21) dX9_init_20 rfl rfl rfl ?_
  refine ny_bipush (pc' := 23) dX9_init_21 rfl kbipush_40 ?_
  refine ny_newI (N := 40) (pc' := 25) dX9_init_23 rfl wA0 (by decide) (by decide) (by decide) (Nat.le_of_ble_eq_true rfl) (Nat.le_of_ble_eq_true rfl) (fun q3 => ?_)
  refine ny_eq (ws' := [(h0, .inr (9, [.ref q1, .ref q2, .null, .null, .null, .int 0, .int 0, .int 0, .int 0, .int 0, .int 0])), (q1, .inl (g.2.1 0, 40, .inl (fun _ => 0))), (q2, .inl (g.2.1 0, 40, .inl (fun _ => 0))), (q3, .inl (g.2.1 0, 40, .inl (fun _ => 0)))]) rfl ?_
  refine ny_putF (i := 0) (ws' := [(h0, .inr (9, [.ref q1, .ref q2, .ref q3, .null, .null, .int 0, .int 0, .int 0, .int 0, .int 0, .int 0])), (q1, .inl (g.2.1 0, 40, .inl (fun _ => 0))), (q2, .inl (g.2.1 0, 40, .inl (fun _ => 0))), (q3, .inl (g.2.1 0, 40, .inl (fun _ => 0)))]) (pc' := 28) dX9_init_25 rfl fFX9_18 rfl rfl rfl rfl (Nat.le_of_ble_eq_true rfl) rfl ?_
  refine ny_aload_n 0 (pc' := 29) dX9_init_28 rfl rfl rfl ?_
  refine ny_bipush (pc' := 31) dX9_init_29 rfl kbipush_40 ?_
  refine ny_newI (N := 40) (pc' := 33) dX9_init_31 rfl wA0 (by decide) (by decide) (by decide) (Nat.le_of_ble_eq_true rfl) (Nat.le_of_ble_eq_true rfl) (fun q4 => ?_)
  refine ny_eq (ws' := [(h0, .inr (9, [.ref q1, .ref q2, .ref q3, .null, .null, .int 0, .int 0, .int 0, .int 0, .int 0, .int 0])), (q1, .inl (g.2.1 0, 40, .inl (fun _ => 0))), (q2, .inl (g.2.1 0, 40, .inl (fun _ => 0))), (q3, .inl (g.2.1 0, 40, .inl (fun _ => 0))), (q4, .inl (g.2.1 0, 40, .inl (fun _ => 0)))]) rfl ?_
  refine ny_putF (i := 0) (ws' := [(h0, .inr (9, [.ref q1, .ref q2, .ref q3, .ref q4, .null, .int 0, .int 0, .int 0, .int 0, .int 0, .int 0])), (q1, .inl (g.2.1 0, 40, .inl (fun _ => 0))), (q2, .inl (g.2.1 0, 40, .inl (fun _ => 0))), (q3, .inl (g.2.1 0, 40, .inl (fun _ => 0))), (q4, .inl (g.2.1 0, 40, .inl (fun _ => 0)))]) (pc' := 36) dX9_init_33 rfl fFX9_21 rfl rfl rfl rfl (Nat.le_of_ble_eq_true rfl) rfl ?_
  refine ny_aload_n 0 (pc' := 37) dX9_init_36 rfl rfl rfl ?_
  refine ny_bipush (pc' := 39) dX9_init_37 rfl kbipush_40 ?_
  refine ny_newI (N := 40) (pc' := 41) dX9_init_39 rfl wA0 (by decide) (by decide) (by decide) (Nat.le_of_ble_eq_true rfl) (Nat.le_of_ble_eq_true rfl) (fun q5 => ?_)
  refine ny_eq (ws' := [(h0, .inr (9, [.ref q1, .ref q2, .ref q3, .ref q4, .null, .int 0, .int 0, .int 0, .int 0, .int 0, .int 0])), (q1, .inl (g.2.1 0, 40, .inl (fun _ => 0))), (q2, .inl (g.2.1 0, 40, .inl (fun _ => 0))), (q3, .inl (g.2.1 0, 40, .inl (fun _ => 0))), (q4, .inl (g.2.1 0, 40, .inl (fun _ => 0))), (q5, .inl (g.2.1 0, 40, .inl (fun _ => 0)))]) rfl ?_
  refine ny_putF (i := 0) (ws' := [(h0, .inr (9, [.ref q1, .ref q2, .ref q3, .ref q4, .ref q5, .int 0, .int 0, .int 0, .int 0, .int 0, .int 0])), (q1, .inl (g.2.1 0, 40, .inl (fun _ => 0))), (q2, .inl (g.2.1 0, 40, .inl (fun _ => 0))), (q3, .inl (g.2.1 0, 40, .inl (fun _ => 0))), (q4, .inl (g.2.1 0, 40, .inl (fun _ => 0))), (q5, .inl (g.2.1 0, 40, .inl (fun _ => 0)))]) (pc' := 44) dX9_init_41 rfl fFX9_24 rfl rfl rfl rfl (Nat.le_of_ble_eq_true rfl) rfl ?_
  exact ny_vret dX9_init_44 rfl (Nat.le_of_ble_eq_true rfl) (Nat.le_of_ble_eq_true rfl) ⟨rfl, fun i => ([h0, q1, q2, q3, q4, q5] : List Nat).getD i 0, rfl, rfl⟩
theorem cX3 (g : yG) (h0 : Nat) : yK g 3 81 1136 YX3_init [.ref h0] [(h0, .inr (3, [.null, .int 0, .int 0]))] (fun v w => v = none ∧ ∃ a : Nat → Nat, a 0 = h0 ∧ w = wX3 g a) := by
  refine yK_of (by decide) (Nat.le_of_ble_eq_true rfl) (fun A => ?_)
  refine ny_loc [0] rfl ?_
  refine ny_aload_n 0 (pc' := 1) dX3_init_0 rfl rfl rfl ?_
  refine ny_obj (pc' := 4) dX3_init_1 rfl moX3_1 oiI oiC (Nat.le_of_ble_eq_true rfl) (Nat.le_of_ble_eq_true rfl) ?_
  refine ny_aload_n 0 (pc' := 5) dX3_init_4 rfl rfl rfl ?_
  refine ny_bipush (pc' := 7) dX3_init_5 rfl kbipush_8 ?_
  refine ny_newD (N := 8) (pc' := 10) dX3_init_7 rfl cwX3_9 (by decide) (by decide) (by decide) (Nat.le_of_ble_eq_true rfl) (Nat.le_of_ble_eq_true rfl) (fun q1 => ?_)
  refine ny_eq (ws' := [(h0, .inr (3, [.null, .int 0, .int 0])), (q1, .inl (g.2.1 4, 8, .inr (.inr (.inr (.inr (fun _ => none))))))]) rfl ?_
  refine ny_putF (i := 0) (ws' := [(h0, .inr (3, [.ref q1, .int 0, .int 0])), (q1, .inl (g.2.1 4, 8, .inr (.inr (.inr (.inr (fun _ => none))))))]) (pc' := 13) dX3_init_10 rfl fFX3_11 rfl rfl rfl rfl (Nat.le_of_ble_eq_true rfl) rfl ?_
  refine ny_iconst (pc' := 14) dX3_init_13 rfl kiconst_0 ?_
  refine ny_istore_n (L' := [(1, .int 0), (0, .ref h0)]) (pc' := 15) dX3_init_14 rfl rfl (by decide) rfl ?_
  refine ny_iload_n 0 (pc' := 16) dX3_init_15 rfl rfl rfl ?_
  refine ny_bipush (pc' := 18) dX3_init_16 rfl kbipush_8 ?_
  refine ny_icmp_ge (tgt := 40) (pc' := 21) dX3_init_18 rfl (by decide) (fun c => absurd c (by decide)) (fun _ => ?_)
  refine ny_aload_n 1 (pc' := 22) dX3_init_21 rfl rfl rfl ?_
  refine ny_get (i := 0) (pc' := 25) dX3_init_22 rfl flX3_11 rfl rfl ?_
  refine ny_iload_n 0 (pc' := 26) dX3_init_25 rfl rfl rfl ?_
  refine ny_new (ci := 1) (N := 11) (tf := kt1) (fs := [.null, .null, .null, .null, .null, .null, .null, .null, .null, .int 0, .int 0]) (pc' := 29) dX3_init_26 rfl rfl ki1 kk1 cwX3_9 wsX1 wi_X1 df1 (Nat.le_of_ble_eq_true rfl) (Nat.le_of_ble_eq_true rfl) (fun q2 => ?_)
  refine ny_dup (pc' := 30) dX3_init_29 rfl rfl ?_
  refine ny_Il (z := YX1_init) (As := []) (pc' := 33) dX3_init_30 rfl (Or.inl mlX3_15) lcX1_init imX1_init rfl rfl rfl rfl (Nat.le_of_ble_eq_true rfl) (Nat.le_of_ble_eq_true rfl) (Nat.le_of_ble_eq_true rfl) (Nat.le_of_ble_eq_true rfl) (cX1 g q2) (fun w1 hw => ?_) (fun _ _ h => h.1)
  obtain ⟨-, b3, hb3, hw⟩ := hw
  subst hw
  subst hb3
  refine ny_eq (ws' := ((h0, .inr (3, [.ref q1, .int 0, .int 0])) :: ([(q1, .inl (g.2.1 4, 8, .inr (.inr (.inr (.inr (fun _ => none))))))] ++ wX1 g b3))) rfl ?_
  refine ny_astD (i := 1) (i2 := 2) (ws' := ((h0, .inr (3, [.ref q1, .int 0, .int 0])) :: ([(q1, .inl (g.2.1 4, 8, .inr (.inr (.inr (.inr (va_up (fun _ => none) 0 (some (b3 0))))))))] ++ wX1 g b3))) (pc' := 34) dX3_init_33 rfl rfl rfl (zin_in (by decide)) rfl ?_
  refine ny_iinc 0 (v := 1) (L' := [(1, .int 1), (0, .ref h0)]) (pc' := 37) dX3_init_34 rfl rfl (by decide) (by decide) rfl ?_
  refine ny_goto (tgt := 15) dX3_init_37 (by decide) ?_
  refine ny_iload_n 0 (pc' := 16) dX3_init_15 rfl rfl rfl ?_
  refine ny_bipush (pc' := 18) dX3_init_16 rfl kbipush_8 ?_
  refine ny_icmp_ge (tgt := 40) (pc' := 21) dX3_init_18 rfl (by decide) (fun c => absurd c (by decide)) (fun _ => ?_)
  refine ny_aload_n 1 (pc' := 22) dX3_init_21 rfl rfl rfl ?_
  refine ny_get (i := 0) (pc' := 25) dX3_init_22 rfl flX3_11 rfl rfl ?_
  refine ny_iload_n 0 (pc' := 26) dX3_init_25 rfl rfl rfl ?_
  refine ny_new (ci := 1) (N := 11) (tf := kt1) (fs := [.null, .null, .null, .null, .null, .null, .null, .null, .null, .int 0, .int 0]) (pc' := 29) dX3_init_26 rfl rfl ki1 kk1 cwX3_9 wsX1 wi_X1 df1 (Nat.le_of_ble_eq_true rfl) (Nat.le_of_ble_eq_true rfl) (fun q4 => ?_)
  refine ny_dup (pc' := 30) dX3_init_29 rfl rfl ?_
  refine ny_Il (z := YX1_init) (As := []) (pc' := 33) dX3_init_30 rfl (Or.inl mlX3_15) lcX1_init imX1_init rfl rfl rfl rfl (Nat.le_of_ble_eq_true rfl) (Nat.le_of_ble_eq_true rfl) (Nat.le_of_ble_eq_true rfl) (Nat.le_of_ble_eq_true rfl) (cX1 g q4) (fun w1 hw => ?_) (fun _ _ h => h.1)
  obtain ⟨-, b5, hb5, hw⟩ := hw
  subst hw
  subst hb5
  refine ny_eq (ws' := ((h0, .inr (3, [.ref q1, .int 0, .int 0])) :: (([(q1, .inl (g.2.1 4, 8, .inr (.inr (.inr (.inr (va_up (fun _ => none) 0 (some (b3 0))))))))] ++ wX1 g b3) ++ wX1 g b5))) rfl ?_
  refine ny_astD (i := 1) (i2 := 12) (ws' := ((h0, .inr (3, [.ref q1, .int 0, .int 0])) :: (([(q1, .inl (g.2.1 4, 8, .inr (.inr (.inr (.inr (va_up (va_up (fun _ => none) 0 (some (b3 0))) 1 (some (b5 0))))))))] ++ wX1 g b3) ++ wX1 g b5))) (pc' := 34) dX3_init_33 rfl rfl rfl (zin_in (by decide)) rfl ?_
  refine ny_iinc 0 (v := 2) (L' := [(1, .int 2), (0, .ref h0)]) (pc' := 37) dX3_init_34 rfl rfl (by decide) (by decide) rfl ?_
  refine ny_goto (tgt := 15) dX3_init_37 (by decide) ?_
  refine ny_iload_n 0 (pc' := 16) dX3_init_15 rfl rfl rfl ?_
  refine ny_bipush (pc' := 18) dX3_init_16 rfl kbipush_8 ?_
  refine ny_icmp_ge (tgt := 40) (pc' := 21) dX3_init_18 rfl (by decide) (fun c => absurd c (by decide)) (fun _ => ?_)
  refine ny_aload_n 1 (pc' := 22) dX3_init_21 rfl rfl rfl ?_
  refine ny_get (i := 0) (pc' := 25) dX3_init_22 rfl flX3_11 rfl rfl ?_
  refine ny_iload_n 0 (pc' := 26) dX3_init_25 rfl rfl rfl ?_
  refine ny_new (ci := 1) (N := 11) (tf := kt1) (fs := [.null, .null, .null, .null, .null, .null, .null, .null, .null, .int 0, .int 0]) (pc' := 29) dX3_init_26 rfl rfl ki1 kk1 cwX3_9 wsX1 wi_X1 df1 (Nat.le_of_ble_eq_true rfl) (Nat.le_of_ble_eq_true rfl) (fun q6 => ?_)
  refine ny_dup (pc' := 30) dX3_init_29 rfl rfl ?_
  refine ny_Il (z := YX1_init) (As := []) (pc' := 33) dX3_init_30 rfl (Or.inl mlX3_15) lcX1_init imX1_init rfl rfl rfl rfl (Nat.le_of_ble_eq_true rfl) (Nat.le_of_ble_eq_true rfl) (Nat.le_of_ble_eq_true rfl) (Nat.le_of_ble_eq_true rfl) (cX1 g q6) (fun w1 hw => ?_) (fun _ _ h => h.1)
  obtain ⟨-, b7, hb7, hw⟩ := hw
  subst hw
  subst hb7
  refine ny_eq (ws' := ((h0, .inr (3, [.ref q1, .int 0, .int 0])) :: ((([(q1, .inl (g.2.1 4, 8, .inr (.inr (.inr (.inr (va_up (va_up (fun _ => none) 0 (some (b3 0))) 1 (some (b5 0))))))))] ++ wX1 g b3) ++ wX1 g b5) ++ wX1 g b7))) rfl ?_
  refine ny_astD (i := 1) (i2 := 22) (ws' := ((h0, .inr (3, [.ref q1, .int 0, .int 0])) :: ((([(q1, .inl (g.2.1 4, 8, .inr (.inr (.inr (.inr (va_up (va_up (va_up (fun _ => none) 0 (some (b3 0))) 1 (some (b5 0))) 2 (some (b7 0))))))))] ++ wX1 g b3) ++ wX1 g b5) ++ wX1 g b7))) (pc' := 34) dX3_init_33 rfl rfl rfl (zin_in (by decide)) rfl ?_
  refine ny_iinc 0 (v := 3) (L' := [(1, .int 3), (0, .ref h0)]) (pc' := 37) dX3_init_34 rfl rfl (by decide) (by decide) rfl ?_
  refine ny_goto (tgt := 15) dX3_init_37 (by decide) ?_
  refine ny_iload_n 0 (pc' := 16) dX3_init_15 rfl rfl rfl ?_
  refine ny_bipush (pc' := 18) dX3_init_16 rfl kbipush_8 ?_
  refine ny_icmp_ge (tgt := 40) (pc' := 21) dX3_init_18 rfl (by decide) (fun c => absurd c (by decide)) (fun _ => ?_)
  refine ny_aload_n 1 (pc' := 22) dX3_init_21 rfl rfl rfl ?_
  refine ny_get (i := 0) (pc' := 25) dX3_init_22 rfl flX3_11 rfl rfl ?_
  refine ny_iload_n 0 (pc' := 26) dX3_init_25 rfl rfl rfl ?_
  refine ny_new (ci := 1) (N := 11) (tf := kt1) (fs := [.null, .null, .null, .null, .null, .null, .null, .null, .null, .int 0, .int 0]) (pc' := 29) dX3_init_26 rfl rfl ki1 kk1 cwX3_9 wsX1 wi_X1 df1 (Nat.le_of_ble_eq_true rfl) (Nat.le_of_ble_eq_true rfl) (fun q8 => ?_)
  refine ny_dup (pc' := 30) dX3_init_29 rfl rfl ?_
  refine ny_Il (z := YX1_init) (As := []) (pc' := 33) dX3_init_30 rfl (Or.inl mlX3_15) lcX1_init imX1_init rfl rfl rfl rfl (Nat.le_of_ble_eq_true rfl) (Nat.le_of_ble_eq_true rfl) (Nat.le_of_ble_eq_true rfl) (Nat.le_of_ble_eq_true rfl) (cX1 g q8) (fun w1 hw => ?_) (fun _ _ h => h.1)
  obtain ⟨-, b9, hb9, hw⟩ := hw
  subst hw
  subst hb9
  refine ny_eq (ws' := ((h0, .inr (3, [.ref q1, .int 0, .int 0])) :: (((([(q1, .inl (g.2.1 4, 8, .inr (.inr (.inr (.inr (va_up (va_up (va_up (fun _ => none) 0 (some (b3 0))) 1 (some (b5 0))) 2 (some (b7 0))))))))] ++ wX1 g b3) ++ wX1 g b5) ++ wX1 g b7) ++ wX1 g b9))) rfl ?_
  refine ny_astD (i := 1) (i2 := 32) (ws' := ((h0, .inr (3, [.ref q1, .int 0, .int 0])) :: (((([(q1, .inl (g.2.1 4, 8, .inr (.inr (.inr (.inr (va_up (va_up (va_up (va_up (fun _ => none) 0 (some (b3 0))) 1 (some (b5 0))) 2 (some (b7 0))) 3 (some (b9 0))))))))] ++ wX1 g b3) ++ wX1 g b5) ++ wX1 g b7) ++ wX1 g b9))) (pc' := 34) dX3_init_33 rfl rfl rfl (zin_in (by decide)) rfl ?_
  refine ny_iinc 0 (v := 4) (L' := [(1, .int 4), (0, .ref h0)]) (pc' := 37) dX3_init_34 rfl rfl (by decide) (by decide) rfl ?_
  refine ny_goto (tgt := 15) dX3_init_37 (by decide) ?_
  refine ny_iload_n 0 (pc' := 16) dX3_init_15 rfl rfl rfl ?_
  refine ny_bipush (pc' := 18) dX3_init_16 rfl kbipush_8 ?_
  refine ny_icmp_ge (tgt := 40) (pc' := 21) dX3_init_18 rfl (by decide) (fun c => absurd c (by decide)) (fun _ => ?_)
  refine ny_aload_n 1 (pc' := 22) dX3_init_21 rfl rfl rfl ?_
  refine ny_get (i := 0) (pc' := 25) dX3_init_22 rfl flX3_11 rfl rfl ?_
  refine ny_iload_n 0 (pc' := 26) dX3_init_25 rfl rfl rfl ?_
  refine ny_new (ci := 1) (N := 11) (tf := kt1) (fs := [.null, .null, .null, .null, .null, .null, .null, .null, .null, .int 0, .int 0]) (pc' := 29) dX3_init_26 rfl rfl ki1 kk1 cwX3_9 wsX1 wi_X1 df1 (Nat.le_of_ble_eq_true rfl) (Nat.le_of_ble_eq_true rfl) (fun q10 => ?_)
  refine ny_dup (pc' := 30) dX3_init_29 rfl rfl ?_
  refine ny_Il (z := YX1_init) (As := []) (pc' := 33) dX3_init_30 rfl (Or.inl mlX3_15) lcX1_init imX1_init rfl rfl rfl rfl (Nat.le_of_ble_eq_true rfl) (Nat.le_of_ble_eq_true rfl) (Nat.le_of_ble_eq_true rfl) (Nat.le_of_ble_eq_true rfl) (cX1 g q10) (fun w1 hw => ?_) (fun _ _ h => h.1)
  obtain ⟨-, b11, hb11, hw⟩ := hw
  subst hw
  subst hb11
  refine ny_eq (ws' := ((h0, .inr (3, [.ref q1, .int 0, .int 0])) :: ((((([(q1, .inl (g.2.1 4, 8, .inr (.inr (.inr (.inr (va_up (va_up (va_up (va_up (fun _ => none) 0 (some (b3 0))) 1 (some (b5 0))) 2 (some (b7 0))) 3 (some (b9 0))))))))] ++ wX1 g b3) ++ wX1 g b5) ++ wX1 g b7) ++ wX1 g b9) ++ wX1 g b11))) rfl ?_
  refine ny_astD (i := 1) (i2 := 42) (ws' := ((h0, .inr (3, [.ref q1, .int 0, .int 0])) :: ((((([(q1, .inl (g.2.1 4, 8, .inr (.inr (.inr (.inr (va_up (va_up (va_up (va_up (va_up (fun _ => none) 0 (some (b3 0))) 1 (some (b5 0))) 2 (some (b7 0))) 3 (some (b9 0))) 4 (some (b11 0))))))))] ++ wX1 g b3) ++ wX1 g b5) ++ wX1 g b7) ++ wX1 g b9) ++ wX1 g b11))) (pc' := 34) dX3_init_33 rfl rfl rfl (zin_in (by decide)) rfl ?_
  refine ny_iinc 0 (v := 5) (L' := [(1, .int 5), (0, .ref h0)]) (pc' := 37) dX3_init_34 rfl rfl (by decide) (by decide) rfl ?_
  refine ny_goto (tgt := 15) dX3_init_37 (by decide) ?_
  refine ny_iload_n 0 (pc' := 16) dX3_init_15 rfl rfl rfl ?_
  refine ny_bipush (pc' := 18) dX3_init_16 rfl kbipush_8 ?_
  refine ny_icmp_ge (tgt := 40) (pc' := 21) dX3_init_18 rfl (by decide) (fun c => absurd c (by decide)) (fun _ => ?_)
  refine ny_aload_n 1 (pc' := 22) dX3_init_21 rfl rfl rfl ?_
  refine ny_get (i := 0) (pc' := 25) dX3_init_22 rfl flX3_11 rfl rfl ?_
  refine ny_iload_n 0 (pc' := 26) dX3_init_25 rfl rfl rfl ?_
  refine ny_new (ci := 1) (N := 11) (tf := kt1) (fs := [.null, .null, .null, .null, .null, .null, .null, .null, .null, .int 0, .int 0]) (pc' := 29) dX3_init_26 rfl rfl ki1 kk1 cwX3_9 wsX1 wi_X1 df1 (Nat.le_of_ble_eq_true rfl) (Nat.le_of_ble_eq_true rfl) (fun q12 => ?_)
  refine ny_dup (pc' := 30) dX3_init_29 rfl rfl ?_
  refine ny_Il (z := YX1_init) (As := []) (pc' := 33) dX3_init_30 rfl (Or.inl mlX3_15) lcX1_init imX1_init rfl rfl rfl rfl (Nat.le_of_ble_eq_true rfl) (Nat.le_of_ble_eq_true rfl) (Nat.le_of_ble_eq_true rfl) (Nat.le_of_ble_eq_true rfl) (cX1 g q12) (fun w1 hw => ?_) (fun _ _ h => h.1)
  obtain ⟨-, b13, hb13, hw⟩ := hw
  subst hw
  subst hb13
  refine ny_eq (ws' := ((h0, .inr (3, [.ref q1, .int 0, .int 0])) :: (((((([(q1, .inl (g.2.1 4, 8, .inr (.inr (.inr (.inr (va_up (va_up (va_up (va_up (va_up (fun _ => none) 0 (some (b3 0))) 1 (some (b5 0))) 2 (some (b7 0))) 3 (some (b9 0))) 4 (some (b11 0))))))))] ++ wX1 g b3) ++ wX1 g b5) ++ wX1 g b7) ++ wX1 g b9) ++ wX1 g b11) ++ wX1 g b13))) rfl ?_
  refine ny_astD (i := 1) (i2 := 52) (ws' := ((h0, .inr (3, [.ref q1, .int 0, .int 0])) :: (((((([(q1, .inl (g.2.1 4, 8, .inr (.inr (.inr (.inr (va_up (va_up (va_up (va_up (va_up (va_up (fun _ => none) 0 (some (b3 0))) 1 (some (b5 0))) 2 (some (b7 0))) 3 (some (b9 0))) 4 (some (b11 0))) 5 (some (b13 0))))))))] ++ wX1 g b3) ++ wX1 g b5) ++ wX1 g b7) ++ wX1 g b9) ++ wX1 g b11) ++ wX1 g b13))) (pc' := 34) dX3_init_33 rfl rfl rfl (zin_in (by decide)) rfl ?_
  refine ny_iinc 0 (v := 6) (L' := [(1, .int 6), (0, .ref h0)]) (pc' := 37) dX3_init_34 rfl rfl (by decide) (by decide) rfl ?_
  refine ny_goto (tgt := 15) dX3_init_37 (by decide) ?_
  refine ny_iload_n 0 (pc' := 16) dX3_init_15 rfl rfl rfl ?_
  refine ny_bipush (pc' := 18) dX3_init_16 rfl kbipush_8 ?_
  refine ny_icmp_ge (tgt := 40) (pc' := 21) dX3_init_18 rfl (by decide) (fun c => absurd c (by decide)) (fun _ => ?_)
  refine ny_aload_n 1 (pc' := 22) dX3_init_21 rfl rfl rfl ?_
  refine ny_get (i := 0) (pc' := 25) dX3_init_22 rfl flX3_11 rfl rfl ?_
  refine ny_iload_n 0 (pc' := 26) dX3_init_25 rfl rfl rfl ?_
  refine ny_new (ci := 1) (N := 11) (tf := kt1) (fs := [.null, .null, .null, .null, .null, .null, .null, .null, .null, .int 0, .int 0]) (pc' := 29) dX3_init_26 rfl rfl ki1 kk1 cwX3_9 wsX1 wi_X1 df1 (Nat.le_of_ble_eq_true rfl) (Nat.le_of_ble_eq_true rfl) (fun q14 => ?_)
  refine ny_dup (pc' := 30) dX3_init_29 rfl rfl ?_
  refine ny_Il (z := YX1_init) (As := []) (pc' := 33) dX3_init_30 rfl (Or.inl mlX3_15) lcX1_init imX1_init rfl rfl rfl rfl (Nat.le_of_ble_eq_true rfl) (Nat.le_of_ble_eq_true rfl) (Nat.le_of_ble_eq_true rfl) (Nat.le_of_ble_eq_true rfl) (cX1 g q14) (fun w1 hw => ?_) (fun _ _ h => h.1)
  obtain ⟨-, b15, hb15, hw⟩ := hw
  subst hw
  subst hb15
  refine ny_eq (ws' := ((h0, .inr (3, [.ref q1, .int 0, .int 0])) :: ((((((([(q1, .inl (g.2.1 4, 8, .inr (.inr (.inr (.inr (va_up (va_up (va_up (va_up (va_up (va_up (fun _ => none) 0 (some (b3 0))) 1 (some (b5 0))) 2 (some (b7 0))) 3 (some (b9 0))) 4 (some (b11 0))) 5 (some (b13 0))))))))] ++ wX1 g b3) ++ wX1 g b5) ++ wX1 g b7) ++ wX1 g b9) ++ wX1 g b11) ++ wX1 g b13) ++ wX1 g b15))) rfl ?_
  refine ny_astD (i := 1) (i2 := 62) (ws' := ((h0, .inr (3, [.ref q1, .int 0, .int 0])) :: ((((((([(q1, .inl (g.2.1 4, 8, .inr (.inr (.inr (.inr (va_up (va_up (va_up (va_up (va_up (va_up (va_up (fun _ => none) 0 (some (b3 0))) 1 (some (b5 0))) 2 (some (b7 0))) 3 (some (b9 0))) 4 (some (b11 0))) 5 (some (b13 0))) 6 (some (b15 0))))))))] ++ wX1 g b3) ++ wX1 g b5) ++ wX1 g b7) ++ wX1 g b9) ++ wX1 g b11) ++ wX1 g b13) ++ wX1 g b15))) (pc' := 34) dX3_init_33 rfl rfl rfl (zin_in (by decide)) rfl ?_
  refine ny_iinc 0 (v := 7) (L' := [(1, .int 7), (0, .ref h0)]) (pc' := 37) dX3_init_34 rfl rfl (by decide) (by decide) rfl ?_
  refine ny_goto (tgt := 15) dX3_init_37 (by decide) ?_
  refine ny_iload_n 0 (pc' := 16) dX3_init_15 rfl rfl rfl ?_
  refine ny_bipush (pc' := 18) dX3_init_16 rfl kbipush_8 ?_
  refine ny_icmp_ge (tgt := 40) (pc' := 21) dX3_init_18 rfl (by decide) (fun c => absurd c (by decide)) (fun _ => ?_)
  refine ny_aload_n 1 (pc' := 22) dX3_init_21 rfl rfl rfl ?_
  refine ny_get (i := 0) (pc' := 25) dX3_init_22 rfl flX3_11 rfl rfl ?_
  refine ny_iload_n 0 (pc' := 26) dX3_init_25 rfl rfl rfl ?_
  refine ny_new (ci := 1) (N := 11) (tf := kt1) (fs := [.null, .null, .null, .null, .null, .null, .null, .null, .null, .int 0, .int 0]) (pc' := 29) dX3_init_26 rfl rfl ki1 kk1 cwX3_9 wsX1 wi_X1 df1 (Nat.le_of_ble_eq_true rfl) (Nat.le_of_ble_eq_true rfl) (fun q16 => ?_)
  refine ny_dup (pc' := 30) dX3_init_29 rfl rfl ?_
  refine ny_Il (z := YX1_init) (As := []) (pc' := 33) dX3_init_30 rfl (Or.inl mlX3_15) lcX1_init imX1_init rfl rfl rfl rfl (Nat.le_of_ble_eq_true rfl) (Nat.le_of_ble_eq_true rfl) (Nat.le_of_ble_eq_true rfl) (Nat.le_of_ble_eq_true rfl) (cX1 g q16) (fun w1 hw => ?_) (fun _ _ h => h.1)
  obtain ⟨-, b17, hb17, hw⟩ := hw
  subst hw
  subst hb17
  refine ny_eq (ws' := ((h0, .inr (3, [.ref q1, .int 0, .int 0])) :: (((((((([(q1, .inl (g.2.1 4, 8, .inr (.inr (.inr (.inr (va_up (va_up (va_up (va_up (va_up (va_up (va_up (fun _ => none) 0 (some (b3 0))) 1 (some (b5 0))) 2 (some (b7 0))) 3 (some (b9 0))) 4 (some (b11 0))) 5 (some (b13 0))) 6 (some (b15 0))))))))] ++ wX1 g b3) ++ wX1 g b5) ++ wX1 g b7) ++ wX1 g b9) ++ wX1 g b11) ++ wX1 g b13) ++ wX1 g b15) ++ wX1 g b17))) rfl ?_
  refine ny_astD (i := 1) (i2 := 72) (ws' := ((h0, .inr (3, [.ref q1, .int 0, .int 0])) :: (((((((([(q1, .inl (g.2.1 4, 8, .inr (.inr (.inr (.inr (va_up (va_up (va_up (va_up (va_up (va_up (va_up (va_up (fun _ => none) 0 (some (b3 0))) 1 (some (b5 0))) 2 (some (b7 0))) 3 (some (b9 0))) 4 (some (b11 0))) 5 (some (b13 0))) 6 (some (b15 0))) 7 (some (b17 0))))))))] ++ wX1 g b3) ++ wX1 g b5) ++ wX1 g b7) ++ wX1 g b9) ++ wX1 g b11) ++ wX1 g b13) ++ wX1 g b15) ++ wX1 g b17))) (pc' := 34) dX3_init_33 rfl rfl rfl (zin_in (by decide)) rfl ?_
  refine ny_iinc 0 (v := 8) (L' := [(1, .int 8), (0, .ref h0)]) (pc' := 37) dX3_init_34 rfl rfl (by decide) (by decide) rfl ?_
  refine ny_goto (tgt := 15) dX3_init_37 (by decide) ?_
  refine ny_iload_n 0 (pc' := 16) dX3_init_15 rfl rfl rfl ?_
  refine ny_bipush (pc' := 18) dX3_init_16 rfl kbipush_8 ?_
  refine ny_icmp_ge (tgt := 40) (pc' := 21) dX3_init_18 rfl (by decide) (fun _ => ?_) (fun c => absurd (by decide) c)
  refine ny_eq (ws' := wX3 g (fun i => ([h0, q1, b3 0, b3 1, b3 2, b3 3, b3 4, b3 5, b3 6, b3 7, b3 8, b3 9, b5 0, b5 1, b5 2, b5 3, b5 4, b5 5, b5 6, b5 7, b5 8, b5 9, b7 0, b7 1, b7 2, b7 3, b7 4, b7 5, b7 6, b7 7, b7 8, b7 9, b9 0, b9 1, b9 2, b9 3, b9 4, b9 5, b9 6, b9 7, b9 8, b9 9, b11 0, b11 1, b11 2, b11 3, b11 4, b11 5, b11 6, b11 7, b11 8, b11 9, b13 0, b13 1, b13 2, b13 3, b13 4, b13 5, b13 6, b13 7, b13 8, b13 9, b15 0, b15 1, b15 2, b15 3, b15 4, b15 5, b15 6, b15 7, b15 8, b15 9, b17 0, b17 1, b17 2, b17 3, b17 4, b17 5, b17 6, b17 7, b17 8, b17 9] : List Nat).getD i 0)) ?_ ?_
  · rw [zrefs8]; rfl
  exact ny_vret dX3_init_40 rfl (Nat.le_of_ble_eq_true rfl) (Nat.le_of_ble_eq_true rfl) ⟨rfl, fun i => ([h0, q1, b3 0, b3 1, b3 2, b3 3, b3 4, b3 5, b3 6, b3 7, b3 8, b3 9, b5 0, b5 1, b5 2, b5 3, b5 4, b5 5, b5 6, b5 7, b5 8, b5 9, b7 0, b7 1, b7 2, b7 3, b7 4, b7 5, b7 6, b7 7, b7 8, b7 9, b9 0, b9 1, b9 2, b9 3, b9 4, b9 5, b9 6, b9 7, b9 8, b9 9, b11 0, b11 1, b11 2, b11 3, b11 4, b11 5, b11 6, b11 7, b11 8, b11 9, b13 0, b13 1, b13 2, b13 3, b13 4, b13 5, b13 6, b13 7, b13 8, b13 9, b15 0, b15 1, b15 2, b15 3, b15 4, b15 5, b15 6, b15 7, b15 8, b15 9, b17 0, b17 1, b17 2, b17 3, b17 4, b17 5, b17 6, b17 7, b17 8, b17 9] : List Nat).getD i 0, rfl, rfl⟩
theorem cX4 (g : yG) (h0 : Nat) : yK g 3 21 445 YX4_init [.ref h0] [(h0, .inr (4, [.null, .null, .null, .int 0]))] (fun v w => v = none ∧ ∃ a : Nat → Nat, a 0 = h0 ∧ w = wX4 g a) := by
  refine yK_of (by decide) (Nat.le_of_ble_eq_true rfl) (fun A => ?_)
  refine ny_loc [0] rfl ?_
  refine ny_aload_n 0 (pc' := 1) dX4_init_0 rfl rfl rfl ?_
  refine ny_obj (pc' := 4) dX4_init_1 rfl moX4_1 oiI oiC (Nat.le_of_ble_eq_true rfl) (Nat.le_of_ble_eq_true rfl) ?_
  refine ny_aload_n 0 (pc' := 5) dX4_init_4 rfl rfl rfl ?_
  refine ny_new (ci := 7) (N := 7) (tf := kt7) (fs := [.null, .null, .null, .null, .int 0, .int 0, .int 0]) (pc' := 8) dX4_init_5 rfl rfl ki7 kk7 cwX4_7 wsX7 wi_X7 df7 (Nat.le_of_ble_eq_true rfl) (Nat.le_of_ble_eq_true rfl) (fun q1 => ?_)
  refine ny_dup (pc' := 9) dX4_init_8 rfl rfl ?_
  refine ny_Il (z := YX7_init) (As := []) (pc' := 12) dX4_init_9 rfl (Or.inr nlX4_9) lcX7_init imX7_init rfl rfl rfl rfl (Nat.le_of_ble_eq_true rfl) (Nat.le_of_ble_eq_true rfl) (Nat.le_of_ble_eq_true rfl) (Nat.le_of_ble_eq_true rfl) (cX7 g q1) (fun w1 hw => ?_) (fun _ _ h => h.1)
  obtain ⟨-, b2, hb2, hw⟩ := hw
  subst hw
  subst hb2
  refine ny_eq (ws' := ((h0, .inr (4, [.null, .null, .null, .int 0])) :: wX7 g b2)) rfl ?_
  refine ny_putF (i := 0) (ws' := ((h0, .inr (4, [.ref (b2 0), .null, .null, .int 0])) :: wX7 g b2)) (pc' := 15) dX4_init_12 rfl fFX4_10 rfl rfl rfl rfl (Nat.le_of_ble_eq_true rfl) rfl ?_
  refine ny_aload_n 0 (pc' := 16) dX4_init_15 rfl rfl rfl ?_
  refine ny_new (ci := 1) (N := 11) (tf := kt1) (fs := [.null, .null, .null, .null, .null, .null, .null, .null, .null, .int 0, .int 0]) (pc' := 19) dX4_init_16 rfl rfl ki1 kk1 cwX4_16 wsX1 wi_X1 df1 (Nat.le_of_ble_eq_true rfl) (Nat.le_of_ble_eq_true rfl) (fun q3 => ?_)
  refine ny_dup (pc' := 20) dX4_init_19 rfl rfl ?_
  refine ny_Il (z := YX1_init) (As := []) (pc' := 23) dX4_init_20 rfl (Or.inl mlX4_18) lcX1_init imX1_init rfl rfl rfl rfl (Nat.le_of_ble_eq_true rfl) (Nat.le_of_ble_eq_true rfl) (Nat.le_of_ble_eq_true rfl) (Nat.le_of_ble_eq_true rfl) (cX1 g q3) (fun w1 hw => ?_) (fun _ _ h => h.1)
  obtain ⟨-, b4, hb4, hw⟩ := hw
  subst hw
  subst hb4
  refine ny_eq (ws' := ((h0, .inr (4, [.ref (b2 0), .null, .null, .int 0])) :: (wX7 g b2 ++ wX1 g b4))) rfl ?_
  refine ny_putF (i := 0) (ws' := ((h0, .inr (4, [.ref (b2 0), .ref (b4 0), .null, .int 0])) :: (wX7 g b2 ++ wX1 g b4))) (pc' := 26) dX4_init_23 rfl fFX4_19 rfl rfl rfl rfl (Nat.le_of_ble_eq_true rfl) rfl ?_
  refine ny_aload_n 0 (pc' := 27) dX4_init_26 rfl rfl rfl ?_
  refine ny_new (ci := 9) (N := 11) (tf := kt9) (fs := [.null, .null, .null, .null, .null, .int 0, .int 0, .int 0, .int 0, .int 0, .int 0]) (pc' := 30) dX4_init_27 rfl rfl ki9 kk9 cwX4_23 wsX9 wi_X9 df9 (Nat.le_of_ble_eq_true rfl) (Nat.le_of_ble_eq_true rfl) (fun q5 => ?_)
  refine ny_dup (pc' := 31) dX4_init_30 rfl rfl ?_
  refine ny_Il (z := YX9_init) (As := []) (pc' := 34) dX4_init_31 rfl (Or.inr nlX4_25) lcX9_init imX9_init rfl rfl rfl rfl (Nat.le_of_ble_eq_true rfl) (Nat.le_of_ble_eq_true rfl) (Nat.le_of_ble_eq_true rfl) (Nat.le_of_ble_eq_true rfl) (cX9 g q5) (fun w1 hw => ?_) (fun _ _ h => h.1)
  obtain ⟨-, b6, hb6, hw⟩ := hw
  subst hw
  subst hb6
  refine ny_eq (ws' := ((h0, .inr (4, [.ref (b2 0), .ref (b4 0), .null, .int 0])) :: ((wX7 g b2 ++ wX1 g b4) ++ wX9 g b6))) rfl ?_
  refine ny_putF (i := 0) (ws' := ((h0, .inr (4, [.ref (b2 0), .ref (b4 0), .ref (b6 0), .int 0])) :: ((wX7 g b2 ++ wX1 g b4) ++ wX9 g b6))) (pc' := 37) dX4_init_34 rfl fFX4_26 rfl rfl rfl rfl (Nat.le_of_ble_eq_true rfl) rfl ?_
  exact ny_vret dX4_init_37 rfl (Nat.le_of_ble_eq_true rfl) (Nat.le_of_ble_eq_true rfl) ⟨rfl, fun i => ([h0, b2 0, b2 1, b2 2, b2 3, b2 4, b4 0, b4 1, b4 2, b4 3, b4 4, b4 5, b4 6, b4 7, b4 8, b4 9, b6 0, b6 1, b6 2, b6 3, b6 4, b6 5] : List Nat).getD i 0, rfl, rfl⟩
theorem cX0 (g : yG) (h0 : Nat) : yK g 1 4 160 YX0_init [.ref h0] [(h0, .inr (0, [.null, .null, .null, .null, .int 0, .int 0, .int 0, .int 0, .int 0, .int 0]))] (fun v w => v = none ∧ ∃ a : Nat → Nat, a 0 = h0 ∧ w = wX0 g a) := by
  refine yK_of (by decide) (Nat.le_of_ble_eq_true rfl) (fun A => ?_)
  refine ny_loc [0] rfl ?_
  refine ny_aload_n 0 (pc' := 1) dX0_init_0 rfl rfl rfl ?_
  refine ny_obj (pc' := 4) dX0_init_1 rfl moX0_3 oiI oiC (Nat.le_of_ble_eq_true rfl) (Nat.le_of_ble_eq_true rfl) ?_
  refine ny_aload_n 0 (pc' := 5) dX0_init_4 rfl rfl rfl ?_
  refine ny_bipush (pc' := 7) dX0_init_5 rfl kbipush_40 ?_
  refine ny_newI (N := 40) (pc' := 9) dX0_init_7 rfl wA0 (by decide) (by decide) (by decide) (Nat.le_of_ble_eq_true rfl) (Nat.le_of_ble_eq_true rfl) (fun q1 => ?_)
  refine ny_eq (ws' := [(h0, .inr (0, [.null, .null, .null, .null, .int 0, .int 0, .int 0, .int 0, .int 0, .int 0])), (q1, .inl (g.2.1 0, 40, .inl (fun _ => 0)))]) rfl ?_
  refine ny_putF (i := 0) (ws' := [(h0, .inr (0, [.ref q1, .null, .null, .null, .int 0, .int 0, .int 0, .int 0, .int 0, .int 0])), (q1, .inl (g.2.1 0, 40, .inl (fun _ => 0)))]) (pc' := 12) dX0_init_9 rfl fFX0_11 rfl rfl rfl rfl (Nat.le_of_ble_eq_true rfl) rfl ?_
  refine ny_aload_n 0 (pc' := 13) dX0_init_12 rfl rfl rfl ?_
  refine ny_bipush (pc' := 15) dX0_init_13 rfl kbipush_40 ?_
  refine ny_newI (N := 40) (pc' := 17) dX0_init_15 rfl wA0 (by decide) (by decide) (by decide) (Nat.le_of_ble_eq_true rfl) (Nat.le_of_ble_eq_true rfl) (fun q2 => ?_)
  refine ny_eq (ws' := [(h0, .inr (0, [.ref q1, .null, .null, .null, .int 0, .int 0, .int 0, .int 0, .int 0, .int 0])), (q1, .inl (g.2.1 0, 40, .inl (fun _ => 0))), (q2, .inl (g.2.1 0, 40, .inl (fun _ => 0)))]) rfl ?_
  refine ny_putF (i := 0) (ws' := [(h0, .inr (0, [.ref q1, .ref q2, .null, .null, .int 0, .int 0, .int 0, .int 0, .int 0, .int 0])), (q1, .inl (g.2.1 0, 40, .inl (fun _ => 0))), (q2, .inl (g.2.1 0, 40, .inl (fun _ => 0)))]) (pc' := 20) dX0_init_17 rfl fFX0_15 rfl rfl rfl rfl (Nat.le_of_ble_eq_true rfl) rfl ?_
  refine ny_aload_n 0 (pc' := 21) dX0_init_20 rfl rfl rfl ?_
  refine ny_bipush (pc' := 23) dX0_init_21 rfl kbipush_40 ?_
  refine ny_newI (N := 40) (pc' := 25) dX0_init_23 rfl wA0 (by decide) (by decide) (by decide) (Nat.le_of_ble_eq_true rfl) (Nat.le_of_ble_eq_true rfl) (fun q3 => ?_)
  refine ny_eq (ws' := [(h0, .inr (0, [.ref q1, .ref q2, .null, .null, .int 0, .int 0, .int 0, .int 0, .int 0, .int 0])), (q1, .inl (g.2.1 0, 40, .inl (fun _ => 0))), (q2, .inl (g.2.1 0, 40, .inl (fun _ => 0))), (q3, .inl (g.2.1 0, 40, .inl (fun _ => 0)))]) rfl ?_
  refine ny_putF (i := 0) (ws' := [(h0, .inr (0, [.ref q1, .ref q2, .ref q3, .null, .int 0, .int 0, .int 0, .int 0, .int 0, .int 0])), (q1, .inl (g.2.1 0, 40, .inl (fun _ => 0))), (q2, .inl (g.2.1 0, 40, .inl (fun _ => 0))), (q3, .inl (g.2.1 0, 40, .inl (fun _ => 0)))]) (pc' := 28) dX0_init_25 rfl fFX0_18 rfl rfl rfl rfl (Nat.le_of_ble_eq_true rfl) rfl ?_
  refine ny_aload_n 0 (pc' := 29) dX0_init_28 rfl rfl rfl ?_
  refine ny_bipush (pc' := 31) dX0_init_29 rfl kbipush_40 ?_
  refine ny_newI (N := 40) (pc' := 33) dX0_init_31 rfl wA0 (by decide) (by decide) (by decide) (Nat.le_of_ble_eq_true rfl) (Nat.le_of_ble_eq_true rfl) (fun q4 => ?_)
  refine ny_eq (ws' := [(h0, .inr (0, [.ref q1, .ref q2, .ref q3, .null, .int 0, .int 0, .int 0, .int 0, .int 0, .int 0])), (q1, .inl (g.2.1 0, 40, .inl (fun _ => 0))), (q2, .inl (g.2.1 0, 40, .inl (fun _ => 0))), (q3, .inl (g.2.1 0, 40, .inl (fun _ => 0))), (q4, .inl (g.2.1 0, 40, .inl (fun _ => 0)))]) rfl ?_
  refine ny_putF (i := 0) (ws' := [(h0, .inr (0, [.ref q1, .ref q2, .ref q3, .ref q4, .int 0, .int 0, .int 0, .int 0, .int 0, .int 0])), (q1, .inl (g.2.1 0, 40, .inl (fun _ => 0))), (q2, .inl (g.2.1 0, 40, .inl (fun _ => 0))), (q3, .inl (g.2.1 0, 40, .inl (fun _ => 0))), (q4, .inl (g.2.1 0, 40, .inl (fun _ => 0)))]) (pc' := 36) dX0_init_33 rfl fFX0_21 rfl rfl rfl rfl (Nat.le_of_ble_eq_true rfl) rfl ?_
  exact ny_vret dX0_init_36 rfl (Nat.le_of_ble_eq_true rfl) (Nat.le_of_ble_eq_true rfl) ⟨rfl, fun i => ([h0, q1, q2, q3, q4] : List Nat).getD i 0, rfl, rfl⟩
theorem cX6 (g : yG) (h0 : Nat) : yK g 2 2 12 YX6_init [.ref h0] [(h0, .inr (6, [.null, .null, .int 0, .int 0]))] (fun v w => v = none ∧ ∃ a : Nat → Nat, a 0 = h0 ∧ w = wX6 g a) := by
  refine yK_of (by decide) (Nat.le_of_ble_eq_true rfl) (fun A => ?_)
  refine ny_loc [0] rfl ?_
  refine ny_aload_n 0 (pc' := 1) dX6_init_0 rfl rfl rfl ?_
  refine ny_obj (pc' := 4) dX6_init_1 rfl moX6_3 oiI oiC (Nat.le_of_ble_eq_true rfl) (Nat.le_of_ble_eq_true rfl) ?_
  refine ny_aload_n 0 (pc' := 5) dX6_init_4 rfl rfl rfl ?_
  refine ny_bipush (pc' := 7) dX6_init_5 rfl kbipush_6 ?_
  refine ny_newI (N := 6) (pc' := 9) dX6_init_7 rfl wA0 (by decide) (by decide) (by decide) (Nat.le_of_ble_eq_true rfl) (Nat.le_of_ble_eq_true rfl) (fun q1 => ?_)
  refine ny_eq (ws' := [(h0, .inr (6, [.null, .null, .int 0, .int 0])), (q1, .inl (g.2.1 0, 6, .inl (fun _ => 0)))]) rfl ?_
  refine ny_putF (i := 0) (ws' := [(h0, .inr (6, [.ref q1, .null, .int 0, .int 0])), (q1, .inl (g.2.1 0, 6, .inl (fun _ => 0)))]) (pc' := 12) dX6_init_9 rfl fFX6_9 rfl rfl rfl rfl (Nat.le_of_ble_eq_true rfl) rfl ?_
  refine ny_aload_n 0 (pc' := 13) dX6_init_12 rfl rfl rfl ?_
  refine ny_bipush (pc' := 15) dX6_init_13 rfl kbipush_6 ?_
  refine ny_newI (N := 6) (pc' := 17) dX6_init_15 rfl wA0 (by decide) (by decide) (by decide) (Nat.le_of_ble_eq_true rfl) (Nat.le_of_ble_eq_true rfl) (fun q2 => ?_)
  refine ny_eq (ws' := [(h0, .inr (6, [.ref q1, .null, .int 0, .int 0])), (q1, .inl (g.2.1 0, 6, .inl (fun _ => 0))), (q2, .inl (g.2.1 0, 6, .inl (fun _ => 0)))]) rfl ?_
  refine ny_putF (i := 0) (ws' := [(h0, .inr (6, [.ref q1, .ref q2, .int 0, .int 0])), (q1, .inl (g.2.1 0, 6, .inl (fun _ => 0))), (q2, .inl (g.2.1 0, 6, .inl (fun _ => 0)))]) (pc' := 20) dX6_init_17 rfl fFX6_15 rfl rfl rfl rfl (Nat.le_of_ble_eq_true rfl) rfl ?_
  refine ny_aload_n 0 (pc' := 21) dX6_init_20 rfl rfl rfl ?_
  refine ny_iconst (pc' := 22) dX6_init_21 rfl kiconst_m1 ?_
  refine ny_put (i := 0) (ws' := [(h0, .inr (6, [.ref q1, .ref q2, .int (-1), .int 0])), (q1, .inl (g.2.1 0, 6, .inl (fun _ => 0))), (q2, .inl (g.2.1 0, 6, .inl (fun _ => 0)))]) (pc' := 25) dX6_init_22 rfl fpX6_18 rfl rfl rfl (Nat.le_of_ble_eq_true rfl) rfl ?_
  refine ny_aload_n 0 (pc' := 26) dX6_init_25 rfl rfl rfl ?_
  refine ny_iconst (pc' := 27) dX6_init_26 rfl kiconst_m1 ?_
  refine ny_put (i := 0) (ws' := [(h0, .inr (6, [.ref q1, .ref q2, .int (-1), .int (-1)])), (q1, .inl (g.2.1 0, 6, .inl (fun _ => 0))), (q2, .inl (g.2.1 0, 6, .inl (fun _ => 0)))]) (pc' := 30) dX6_init_27 rfl fpX6_22 rfl rfl rfl (Nat.le_of_ble_eq_true rfl) rfl ?_
  refine ny_aload_n 0 (pc' := 31) dX6_init_30 rfl rfl rfl ?_
  refine ny_get (i := 0) (pc' := 34) dX6_init_31 rfl flX6_15 rfl rfl ?_
  refine ny_iconst (pc' := 35) dX6_init_34 rfl kiconst_m1 ?_
  refine ny_S (mc' := 0) (ms' := 0) (z := YJ7_fill_53178) (As := [.ref q2, .int (-1)]) (wc := [(q2, .inl (g.2.1 0, 6, .inl (fun _ => 0)))]) (wr := [(h0, .inr (6, [.ref q1, .ref q2, .int (-1), .int (-1)])), (q1, .inl (g.2.1 0, 6, .inl (fun _ => 0)))]) (pc' := 38) dX6_init_35 rfl mlX6_25 lkJ7_fill_53178 rfl rfl (Nat.le_of_ble_eq_true rfl) (Nat.le_of_ble_eq_true rfl) (Nat.le_of_ble_eq_true rfl) (Nat.le_of_ble_eq_true rfl) [2] [0, 1] rfl rfl rfl rfl (by decide) (c_fill g q2 6 (fun _ => 0) ((-1)) (by decide)) (fun v9 w9 hw => ?_)
  obtain ⟨rfl, rfl⟩ := hw
  refine ny_sub (ws' := [(h0, .inr (6, [.ref q1, .ref q2, .int (-1), .int (-1)])), (q1, .inl (g.2.1 0, 6, .inl (fun _ => 0))), (q2, .inl (g.2.1 0, 6, .inl (fun j => if j < 6 then (-1) else 0)))]) [0, 1, 2] rfl rfl rfl ?_
  exact ny_vret dX6_init_38 rfl (Nat.le_of_ble_eq_true rfl) (Nat.le_of_ble_eq_true rfl) ⟨rfl, fun i => ([h0, q1, q2] : List Nat).getD i 0, rfl, rfl⟩
theorem cX2 (g : yG) (h0 : Nat) : yK g 1 0 0 YX2_init [.ref h0] [(h0, .inr (2, [.int 0]))] (fun v w => v = none ∧ ∃ a : Nat → Nat, a 0 = h0 ∧ w = wX2 g a) := by
  refine yK_of (by decide) (Nat.le_of_ble_eq_true rfl) (fun A => ?_)
  refine ny_loc [0] rfl ?_
  refine ny_aload_n 0 (pc' := 1) dX2_init_0 rfl rfl rfl ?_
  refine ny_obj (pc' := 4) dX2_init_1 rfl moX2_3 oiI oiC (Nat.le_of_ble_eq_true rfl) (Nat.le_of_ble_eq_true rfl) ?_
  exact ny_vret dX2_init_4 rfl (Nat.le_of_ble_eq_true rfl) (Nat.le_of_ble_eq_true rfl) ⟨rfl, fun i => ([h0] : List Nat).getD i 0, rfl, rfl⟩
theorem cX5 (g : yG) (h0 : Nat) : yK g 1 1 40 YX5_init [.ref h0] [(h0, .inr (5, [.null, .int 0]))] (fun v w => v = none ∧ ∃ a : Nat → Nat, a 0 = h0 ∧ w = wX5 g a) := by
  refine yK_of (by decide) (Nat.le_of_ble_eq_true rfl) (fun A => ?_)
  refine ny_loc [0] rfl ?_
  refine ny_aload_n 0 (pc' := 1) dX5_init_0 rfl rfl rfl ?_
  refine ny_obj (pc' := 4) dX5_init_1 rfl moX5_3 oiI oiC (Nat.le_of_ble_eq_true rfl) (Nat.le_of_ble_eq_true rfl) ?_
  refine ny_aload_n 0 (pc' := 5) dX5_init_4 rfl rfl rfl ?_
  refine ny_bipush (pc' := 7) dX5_init_5 rfl kbipush_40 ?_
  refine ny_newI (N := 40) (pc' := 9) dX5_init_7 rfl wA0 (by decide) (by decide) (by decide) (Nat.le_of_ble_eq_true rfl) (Nat.le_of_ble_eq_true rfl) (fun q1 => ?_)
  refine ny_eq (ws' := [(h0, .inr (5, [.null, .int 0])), (q1, .inl (g.2.1 0, 40, .inl (fun _ => 0)))]) rfl ?_
  refine ny_putF (i := 0) (ws' := [(h0, .inr (5, [.ref q1, .int 0])), (q1, .inl (g.2.1 0, 40, .inl (fun _ => 0)))]) (pc' := 12) dX5_init_9 rfl fFX5_11 rfl rfl rfl rfl (Nat.le_of_ble_eq_true rfl) rfl ?_
  exact ny_vret dX5_init_12 rfl (Nat.le_of_ble_eq_true rfl) (Nat.le_of_ble_eq_true rfl) ⟨rfl, fun i => ([h0, q1] : List Nat).getD i 0, rfl, rfl⟩
