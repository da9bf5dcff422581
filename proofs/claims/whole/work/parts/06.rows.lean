def YX11_hasBit : zY := (⟨"ProperFollow", "hasBit", "(II)Z"⟩, prog_1_method_49_code, 2, (some .boolean))
def YX1_bunsAt : zY := (⟨"ProperFollow$Day", "bunsAt", "(I)I"⟩, prog_3_method_13_code, 2, (some .int))
def YX1_copyFrom : zY := (⟨"ProperFollow$Day", "copyFrom", "(LProperFollow$Day;)V"⟩, prog_3_method_3_code, 2, none)
def YX1_findBun : zY := (⟨"ProperFollow$Day", "findBun", "(I)V"⟩, prog_3_method_37_code, 3, none)
def YX1_followedBy : zY := (⟨"ProperFollow$Day", "followedBy", "(I)I"⟩, prog_3_method_15_code, 2, (some .int))
def YX1_lastOfRow : zY := (⟨"ProperFollow$Day", "lastOfRow", "(I)I"⟩, prog_3_method_27_code, 6, (some .int))
def YX1_mayBe : zY := (⟨"ProperFollow$Day", "mayBe", "(I)Z"⟩, prog_3_method_4_code, 1, (some .boolean))
def YX1_mayBeCorner : zY := (⟨"ProperFollow$Day", "mayBeCorner", "(I)Z"⟩, prog_3_method_5_code, 1, (some .boolean))
def YX1_move : zY := (⟨"ProperFollow$Day", "move", "(II)V"⟩, prog_3_method_36_code, 6, none)
def YX1_nextPlace : zY := (⟨"ProperFollow$Day", "nextPlace", "(LProperFollow$Plan;I)I"⟩, prog_3_method_34_code, 5, (some .int))
def YX1_passMinutes : zY := (⟨"ProperFollow$Day", "passMinutes", "(LProperFollow$Plan;I)V"⟩, prog_3_method_33_code, 5, none)
def YX1_ringOf : zY := (⟨"ProperFollow$Day", "ringOf", "(I)I"⟩, prog_3_method_26_code, 5, (some .int))
def YX1_shortenWay : zY := (⟨"ProperFollow$Day", "shortenWay", "(I)V"⟩, prog_3_method_35_code, 4, none)
def YX1_wasAt : zY := (⟨"ProperFollow$Day", "wasAt", "(II)I"⟩, prog_3_method_10_code, 3, (some .int))
def YX1_whereIs : zY := (⟨"ProperFollow$Day", "whereIs", "(I)I"⟩, prog_3_method_11_code, 2, (some .int))
def YX7_besideOf : zY := (⟨"ProperFollow$Plan", "besideOf", "(I)I"⟩, prog_9_method_11_code, 2, (some .int))
def YX7_farFrom : zY := (⟨"ProperFollow$Plan", "farFrom", "(II)I"⟩, prog_9_method_13_code, 3, (some .int))
def YX7_hasCorner : zY := (⟨"ProperFollow$Plan", "hasCorner", "(I)Z"⟩, prog_9_method_5_code, 2, (some .boolean))
def YX7_stepTowards : zY := (⟨"ProperFollow$Plan", "stepTowards", "(II)I"⟩, prog_9_method_14_code, 5, (some .int))
theorem kbipush_6 : (Int8.ofInt 6).toInt32 = 6 := by decide +kernel
theorem kbipush_7 : (Int8.ofInt 7).toInt32 = 7 := by decide +kernel
theorem kbipush_8 : (Int8.ofInt 8).toInt32 = 8 := by decide +kernel
theorem kbipush_36 : (Int8.ofInt 36).toInt32 = 36 := by decide +kernel
theorem kbipush_48 : (Int8.ofInt 48).toInt32 = 48 := by decide +kernel
theorem kiconst_m1 : Int32.ofInt (-1) = (-1) := by decide +kernel
theorem kiconst_0 : Int32.ofInt 0 = 0 := by decide +kernel
theorem kiconst_1 : Int32.ofInt 1 = 1 := by decide +kernel
theorem kiconst_5 : Int32.ofInt 5 = 5 := by decide +kernel
theorem ksipush_9999 : (Int16.ofInt 9999).toInt32 = 9999 := by decide +kernel
theorem cim1 : Int32.ofInt (-1) = (-1) := by decide +kernel
theorem ci1 : Int32.ofInt 1 = 1 := by decide +kernel
theorem tn0 : (0 : Int32).toNatClampNeg = 0 := by decide +kernel
theorem tn6 : (6 : Int32).toNatClampNeg = 6 := by decide +kernel
theorem tn8 : (8 : Int32).toNatClampNeg = 8 := by decide +kernel
theorem tn36 : (36 : Int32).toNatClampNeg = 36 := by decide +kernel
theorem tn48 : (48 : Int32).toNatClampNeg = 48 := by decide +kernel
theorem sh5 : zSH[5]? = some (7 + 10, [8, 9, 10, 11, 0, 0, 0]) := by decide +kernel
theorem sh8 : zSH[8]? = some (0, [8]) := by decide +kernel
theorem sh9 : zSH[9]? = some (0, [64]) := by decide +kernel
theorem sh15 : zSH[15]? = some (1 + 10, [18, 19, 20, 21, 22, 23, 24, 25, 26, 0, 0]) := by decide +kernel
theorem sh16 : zSH[16]? = some (0, [36]) := by decide +kernel
theorem sh17 : zSH[17]? = some (0, [6]) := by decide +kernel
theorem sh18 : zSH[18]? = some (0, [6]) := by decide +kernel
theorem sh19 : zSH[19]? = some (0, [6]) := by decide +kernel
theorem sh20 : zSH[20]? = some (0, [48]) := by decide +kernel
theorem sh21 : zSH[21]? = some (0, [6]) := by decide +kernel
theorem sh22 : zSH[22]? = some (0, [8]) := by decide +kernel
theorem sh23 : zSH[23]? = some (0, [8]) := by decide +kernel
theorem sh25 : zSH[25]? = some (1 + 10, [28, 29, 30, 31, 32, 33, 34, 35, 36, 0, 0]) := by decide +kernel
theorem sh26 : zSH[26]? = some (0, [36]) := by decide +kernel
theorem sh27 : zSH[27]? = some (0, [6]) := by decide +kernel
theorem sh28 : zSH[28]? = some (0, [6]) := by decide +kernel
theorem sh29 : zSH[29]? = some (0, [6]) := by decide +kernel
theorem sh30 : zSH[30]? = some (0, [48]) := by decide +kernel
theorem sh31 : zSH[31]? = some (0, [6]) := by decide +kernel
theorem sh32 : zSH[32]? = some (0, [8]) := by decide +kernel
theorem sh33 : zSH[33]? = some (0, [8]) := by decide +kernel
theorem sh34 : zSH[34]? = some (0, [6]) := by decide +kernel
theorem fwX1_9 : Cond.fieldLink "ProperFollow$Day" 9 (kT1 0).1 (kT1 0).2.1 (kT1 0).2.2.1 ∈ zWS := zWS_in (List.mem_of_getElem? (i := 291) (by decide +kernel)) (by decide +kernel)
theorem flX1_9 : zfld "ProperFollow$Day" 9 1 0 := ⟨kR1, kT1, 11, rfl, ki1, by decide, fwX1_9⟩
theorem fwX1_15 : Cond.fieldLink "ProperFollow$Day" 15 (kT1 1).1 (kT1 1).2.1 (kT1 1).2.2.1 ∈ zWS := zWS_in (List.mem_of_getElem? (i := 292) (by decide +kernel)) (by decide +kernel)
theorem flX1_15 : zfld "ProperFollow$Day" 15 1 1 := ⟨kR1, kT1, 11, rfl, ki1, by decide, fwX1_15⟩
theorem fwX1_18 : Cond.fieldLink "ProperFollow$Day" 18 (kT1 2).1 (kT1 2).2.1 (kT1 2).2.2.1 ∈ zWS := zWS_in (List.mem_of_getElem? (i := 293) (by decide +kernel)) (by decide +kernel)
theorem flX1_18 : zfld "ProperFollow$Day" 18 1 2 := ⟨kR1, kT1, 11, rfl, ki1, by decide, fwX1_18⟩
theorem fwX1_21 : Cond.fieldLink "ProperFollow$Day" 21 (kT1 3).1 (kT1 3).2.1 (kT1 3).2.2.1 ∈ zWS := zWS_in (List.mem_of_getElem? (i := 294) (by decide +kernel)) (by decide +kernel)
theorem flX1_21 : zfld "ProperFollow$Day" 21 1 3 := ⟨kR1, kT1, 11, rfl, ki1, by decide, fwX1_21⟩
theorem fwX1_24 : Cond.fieldLink "ProperFollow$Day" 24 (kT1 4).1 (kT1 4).2.1 (kT1 4).2.2.1 ∈ zWS := zWS_in (List.mem_of_getElem? (i := 295) (by decide +kernel)) (by decide +kernel)
theorem flX1_24 : zfld "ProperFollow$Day" 24 1 4 := ⟨kR1, kT1, 11, rfl, ki1, by decide, fwX1_24⟩
theorem fwX1_27 : Cond.fieldLink "ProperFollow$Day" 27 (kT1 5).1 (kT1 5).2.1 (kT1 5).2.2.1 ∈ zWS := zWS_in (List.mem_of_getElem? (i := 296) (by decide +kernel)) (by decide +kernel)
theorem flX1_27 : zfld "ProperFollow$Day" 27 1 5 := ⟨kR1, kT1, 11, rfl, ki1, by decide, fwX1_27⟩
theorem fwX1_30 : Cond.fieldLink "ProperFollow$Day" 30 (kT1 6).1 (kT1 6).2.1 (kT1 6).2.2.1 ∈ zWS := zWS_in (List.mem_of_getElem? (i := 297) (by decide +kernel)) (by decide +kernel)
theorem flX1_30 : zfld "ProperFollow$Day" 30 1 6 := ⟨kR1, kT1, 11, rfl, ki1, by decide, fwX1_30⟩
theorem fwX1_33 : Cond.fieldLink "ProperFollow$Day" 33 (kT1 7).1 (kT1 7).2.1 (kT1 7).2.2.1 ∈ zWS := zWS_in (List.mem_of_getElem? (i := 298) (by decide +kernel)) (by decide +kernel)
theorem flX1_33 : zfld "ProperFollow$Day" 33 1 7 := ⟨kR1, kT1, 11, rfl, ki1, by decide, fwX1_33⟩
theorem fwX1_36 : Cond.fieldLink "ProperFollow$Day" 36 (kT1 8).1 (kT1 8).2.1 (kT1 8).2.2.1 ∈ zWS := zWS_in (List.mem_of_getElem? (i := 299) (by decide +kernel)) (by decide +kernel)
theorem flX1_36 : zfld "ProperFollow$Day" 36 1 8 := ⟨kR1, kT1, 11, rfl, ki1, by decide, fwX1_36⟩
theorem fwX1_45 : Cond.fieldLink "ProperFollow$Day" 45 (kT1 9).1 (kT1 9).2.1 (kT1 9).2.2.1 ∈ zWS := zWS_in (List.mem_of_getElem? (i := 300) (by decide +kernel)) (by decide +kernel)
theorem flX1_45 : zfld "ProperFollow$Day" 45 1 9 := ⟨kR1, kT1, 11, rfl, ki1, by decide, fwX1_45⟩
theorem fpX1_45 : zfldP "ProperFollow$Day" 45 1 9 .int := ⟨kR1, kT1, 11, kt1, rfl, ki1, by decide, fwX1_45, kk1, kn1, by decide +kernel, by decide +kernel⟩
theorem fwX1_49 : Cond.fieldLink "ProperFollow$Day" 49 (kT1 10).1 (kT1 10).2.1 (kT1 10).2.2.1 ∈ zWS := zWS_in (List.mem_of_getElem? (i := 301) (by decide +kernel)) (by decide +kernel)
theorem flX1_49 : zfld "ProperFollow$Day" 49 1 10 := ⟨kR1, kT1, 11, rfl, ki1, by decide, fwX1_49⟩
theorem fpX1_49 : zfldP "ProperFollow$Day" 49 1 10 .int := ⟨kR1, kT1, 11, kt1, rfl, ki1, by decide, fwX1_49, kk1, kn1, by decide +kernel, by decide +kernel⟩
theorem fwX7_18 : Cond.fieldLink "ProperFollow$Plan" 18 (kT7 2).1 (kT7 2).2.1 (kT7 2).2.2.1 ∈ zWS := zWS_in (List.mem_of_getElem? (i := 262) (by decide +kernel)) (by decide +kernel)
theorem flX7_18 : zfld "ProperFollow$Plan" 18 7 2 := ⟨kR7, kT7, 7, rfl, ki7, by decide, fwX7_18⟩
theorem fwX7_22 : Cond.fieldLink "ProperFollow$Plan" 22 (kT7 3).1 (kT7 3).2.1 (kT7 3).2.2.1 ∈ zWS := zWS_in (List.mem_of_getElem? (i := 263) (by decide +kernel)) (by decide +kernel)
theorem flX7_22 : zfld "ProperFollow$Plan" 22 7 3 := ⟨kR7, kT7, 7, rfl, ki7, by decide, fwX7_22⟩
theorem fwX7_25 : Cond.fieldLink "ProperFollow$Plan" 25 (kT7 4).1 (kT7 4).2.1 (kT7 4).2.2.1 ∈ zWS := zWS_in (List.mem_of_getElem? (i := 264) (by decide +kernel)) (by decide +kernel)
theorem flX7_25 : zfld "ProperFollow$Plan" 25 7 4 := ⟨kR7, kT7, 7, rfl, ki7, by decide, fwX7_25⟩
theorem wi_X11 : Cond.initialized "ProperFollow" ∈ zWS := zWS_in (List.mem_of_getElem? (i := 115) (by decide +kernel)) (by decide +kernel)
theorem wi_X1 : Cond.initialized "ProperFollow$Day" ∈ zWS := zWS_in (List.mem_of_getElem? (i := 123) (by decide +kernel)) (by decide +kernel)
theorem wi_X7 : Cond.initialized "ProperFollow$Plan" ∈ zWS := zWS_in (List.mem_of_getElem? (i := 122) (by decide +kernel)) (by decide +kernel)
theorem lkX11_hasBit : zlkS YX11_hasBit 2 := ⟨⟨wi_X11, zWS_in (List.mem_of_getElem? (i := 690) (by decide +kernel)) (by decide +kernel), by decide, by decide, by decide +kernel, by decide⟩, zWS_in (List.mem_of_getElem? (i := 689) (by decide +kernel)) (by decide +kernel)⟩
theorem lkX1_bunsAt : zlkV YX1_bunsAt 1 := ⟨⟨wi_X1, zWS_in (List.mem_of_getElem? (i := 824) (by decide +kernel)) (by decide +kernel), by decide, by decide, by decide +kernel, by decide⟩, zWS_in (List.mem_of_getElem? (i := 822) (by decide +kernel)) (by decide +kernel), zWS_in (List.mem_of_getElem? (i := 823) (by decide +kernel)) (by decide +kernel)⟩
theorem lkX1_findBun : zlkV YX1_findBun 1 := ⟨⟨wi_X1, zWS_in (List.mem_of_getElem? (i := 962) (by decide +kernel)) (by decide +kernel), by decide, by decide, by decide +kernel, by decide⟩, zWS_in (List.mem_of_getElem? (i := 961) (by decide +kernel)) (by decide +kernel), zWS_in (List.mem_of_getElem? (i := 18) (by decide +kernel)) (by decide +kernel)⟩
theorem lkX1_followedBy : zlkV YX1_followedBy 1 := ⟨⟨wi_X1, zWS_in (List.mem_of_getElem? (i := 718) (by decide +kernel)) (by decide +kernel), by decide, by decide, by decide +kernel, by decide⟩, zWS_in (List.mem_of_getElem? (i := 716) (by decide +kernel)) (by decide +kernel), zWS_in (List.mem_of_getElem? (i := 717) (by decide +kernel)) (by decide +kernel)⟩
theorem lkX1_mayBe : zlkS YX1_mayBe 1 := ⟨⟨wi_X1, zWS_in (List.mem_of_getElem? (i := 705) (by decide +kernel)) (by decide +kernel), by decide, by decide, by decide +kernel, by decide⟩, zWS_in (List.mem_of_getElem? (i := 704) (by decide +kernel)) (by decide +kernel)⟩
theorem lkX1_mayBeCorner : zlkS YX1_mayBeCorner 1 := ⟨⟨wi_X1, zWS_in (List.mem_of_getElem? (i := 827) (by decide +kernel)) (by decide +kernel), by decide, by decide, by decide +kernel, by decide⟩, zWS_in (List.mem_of_getElem? (i := 826) (by decide +kernel)) (by decide +kernel)⟩
theorem lkX1_move : zlkV YX1_move 2 := ⟨⟨wi_X1, zWS_in (List.mem_of_getElem? (i := 957) (by decide +kernel)) (by decide +kernel), by decide, by decide, by decide +kernel, by decide⟩, zWS_in (List.mem_of_getElem? (i := 956) (by decide +kernel)) (by decide +kernel), zWS_in (List.mem_of_getElem? (i := 17) (by decide +kernel)) (by decide +kernel)⟩
theorem lkX1_nextPlace : zlkV YX1_nextPlace 2 := ⟨⟨wi_X1, zWS_in (List.mem_of_getElem? (i := 941) (by decide +kernel)) (by decide +kernel), by decide, by decide, by decide +kernel, by decide⟩, zWS_in (List.mem_of_getElem? (i := 940) (by decide +kernel)) (by decide +kernel), zWS_in (List.mem_of_getElem? (i := 15) (by decide +kernel)) (by decide +kernel)⟩
theorem lkX1_shortenWay : zlkV YX1_shortenWay 1 := ⟨⟨wi_X1, zWS_in (List.mem_of_getElem? (i := 953) (by decide +kernel)) (by decide +kernel), by decide, by decide, by decide +kernel, by decide⟩, zWS_in (List.mem_of_getElem? (i := 952) (by decide +kernel)) (by decide +kernel), zWS_in (List.mem_of_getElem? (i := 16) (by decide +kernel)) (by decide +kernel)⟩
theorem lkX1_wasAt : zlkV YX1_wasAt 2 := ⟨⟨wi_X1, zWS_in (List.mem_of_getElem? (i := 736) (by decide +kernel)) (by decide +kernel), by decide, by decide, by decide +kernel, by decide⟩, zWS_in (List.mem_of_getElem? (i := 734) (by decide +kernel)) (by decide +kernel), zWS_in (List.mem_of_getElem? (i := 735) (by decide +kernel)) (by decide +kernel)⟩
theorem lkX1_whereIs : zlkV YX1_whereIs 1 := ⟨⟨wi_X1, zWS_in (List.mem_of_getElem? (i := 732) (by decide +kernel)) (by decide +kernel), by decide, by decide, by decide +kernel, by decide⟩, zWS_in (List.mem_of_getElem? (i := 730) (by decide +kernel)) (by decide +kernel), zWS_in (List.mem_of_getElem? (i := 731) (by decide +kernel)) (by decide +kernel)⟩
theorem lkX7_besideOf : zlkV YX7_besideOf 1 := ⟨⟨wi_X7, zWS_in (List.mem_of_getElem? (i := 687) (by decide +kernel)) (by decide +kernel), by decide, by decide, by decide +kernel, by decide⟩, zWS_in (List.mem_of_getElem? (i := 685) (by decide +kernel)) (by decide +kernel), zWS_in (List.mem_of_getElem? (i := 686) (by decide +kernel)) (by decide +kernel)⟩
theorem lkX7_farFrom : zlkV YX7_farFrom 2 := ⟨⟨wi_X7, zWS_in (List.mem_of_getElem? (i := 949) (by decide +kernel)) (by decide +kernel), by decide, by decide, by decide +kernel, by decide⟩, zWS_in (List.mem_of_getElem? (i := 947) (by decide +kernel)) (by decide +kernel), zWS_in (List.mem_of_getElem? (i := 948) (by decide +kernel)) (by decide +kernel)⟩
theorem lkX7_hasCorner : zlkV YX7_hasCorner 1 := ⟨⟨wi_X7, zWS_in (List.mem_of_getElem? (i := 683) (by decide +kernel)) (by decide +kernel), by decide, by decide, by decide +kernel, by decide⟩, zWS_in (List.mem_of_getElem? (i := 681) (by decide +kernel)) (by decide +kernel), zWS_in (List.mem_of_getElem? (i := 682) (by decide +kernel)) (by decide +kernel)⟩
theorem lkX7_stepTowards : zlkV YX7_stepTowards 2 := ⟨⟨wi_X7, zWS_in (List.mem_of_getElem? (i := 945) (by decide +kernel)) (by decide +kernel), by decide, by decide, by decide +kernel, by decide⟩, zWS_in (List.mem_of_getElem? (i := 943) (by decide +kernel)) (by decide +kernel), zWS_in (List.mem_of_getElem? (i := 944) (by decide +kernel)) (by decide +kernel)⟩
theorem mlX1_52 : zcp "ProperFollow$Day" 52 := zWS_in (List.mem_of_getElem? (i := 789) (by decide +kernel)) (by decide +kernel)
theorem mlX1_58 : Cond.methodLink "ProperFollow$Day" 58 ⟨"ProperFollow$Day", "mayBe", "(I)Z"⟩ ∈ zWS := zWS_in (List.mem_of_getElem? (i := 703) (by decide +kernel)) (by decide +kernel)
theorem mlX1_62 : Cond.methodLink "ProperFollow$Day" 62 ⟨"ProperFollow$Day", "wasAt", "(II)I"⟩ ∈ zWS := zWS_in (List.mem_of_getElem? (i := 733) (by decide +kernel)) (by decide +kernel)
theorem mlX1_66 : Cond.methodLink "ProperFollow$Day" 66 ⟨"ProperFollow$Day", "mayBeCorner", "(I)Z"⟩ ∈ zWS := zWS_in (List.mem_of_getElem? (i := 825) (by decide +kernel)) (by decide +kernel)
theorem mlX1_69 : Cond.methodLink "ProperFollow$Day" 69 ⟨"ProperFollow$Day", "followedBy", "(I)I"⟩ ∈ zWS := zWS_in (List.mem_of_getElem? (i := 727) (by decide +kernel)) (by decide +kernel)
theorem mlX1_88 : Cond.methodLink "ProperFollow$Day" 88 ⟨"ProperFollow$Day", "whereIs", "(I)I"⟩ ∈ zWS := zWS_in (List.mem_of_getElem? (i := 729) (by decide +kernel)) (by decide +kernel)
theorem mlX1_103 : Cond.methodLink "ProperFollow$Day" 103 ⟨"ProperFollow$Day", "nextPlace", "(LProperFollow$Plan;I)I"⟩ ∈ zWS := zWS_in (List.mem_of_getElem? (i := 938) (by decide +kernel)) (by decide +kernel)
theorem mlX1_107 : Cond.methodLink "ProperFollow$Day" 107 ⟨"ProperFollow$Day", "shortenWay", "(I)V"⟩ ∈ zWS := zWS_in (List.mem_of_getElem? (i := 950) (by decide +kernel)) (by decide +kernel)
theorem mlX1_111 : Cond.methodLink "ProperFollow$Day" 111 ⟨"ProperFollow$Day", "move", "(II)V"⟩ ∈ zWS := zWS_in (List.mem_of_getElem? (i := 954) (by decide +kernel)) (by decide +kernel)
theorem mlX1_115 : Cond.methodLink "ProperFollow$Day" 115 ⟨"ProperFollow$Day", "findBun", "(I)V"⟩ ∈ zWS := zWS_in (List.mem_of_getElem? (i := 959) (by decide +kernel)) (by decide +kernel)
theorem mlX1_118 : Cond.methodLink "ProperFollow$Day" 118 ⟨"ProperFollow$Plan", "stepTowards", "(II)I"⟩ ∈ zWS := zWS_in (List.mem_of_getElem? (i := 942) (by decide +kernel)) (by decide +kernel)
theorem mlX1_121 : Cond.methodLink "ProperFollow$Day" 121 Lib.Math.min.name ∈ zWS := zWS_in (List.mem_of_getElem? (i := 958) (by decide +kernel)) (by decide +kernel)
theorem mlX1_126 : Cond.methodLink "ProperFollow$Day" 126 ⟨"ProperFollow$Day", "bunsAt", "(I)I"⟩ ∈ zWS := zWS_in (List.mem_of_getElem? (i := 963) (by decide +kernel)) (by decide +kernel)
theorem mlX7_35 : Cond.methodLink "ProperFollow$Plan" 35 ⟨"ProperFollow$Plan", "hasCorner", "(I)Z"⟩ ∈ zWS := zWS_in (List.mem_of_getElem? (i := 680) (by decide +kernel)) (by decide +kernel)
theorem mlX7_42 : Cond.methodLink "ProperFollow$Plan" 42 ⟨"ProperFollow$Plan", "besideOf", "(I)I"⟩ ∈ zWS := zWS_in (List.mem_of_getElem? (i := 684) (by decide +kernel)) (by decide +kernel)
theorem mlX7_50 : Cond.methodLink "ProperFollow$Plan" 50 ⟨"ProperFollow$Plan", "farFrom", "(II)I"⟩ ∈ zWS := zWS_in (List.mem_of_getElem? (i := 946) (by decide +kernel)) (by decide +kernel)
theorem nlX1_84 : ("ProperFollow$Day", 84, (⟨"ProperFollow", "hasBit", "(II)Z"⟩ : MethodName), "ProperFollow") ∈ zNW := List.mem_of_getElem? (i := 11) (by decide +kernel)
theorem nlX7_46 : ("ProperFollow$Plan", 46, (⟨"ProperFollow", "hasBit", "(II)Z"⟩ : MethodName), "ProperFollow") ∈ zNW := List.mem_of_getElem? (i := 9) (by decide +kernel)
theorem zcpw : Cond.native arraycopyName ∈ zWS ∧ Cond.static arraycopyName ∈ zWS ∧ Cond.initialized "java/lang/System" ∈ zWS := ⟨zWS_in (List.mem_of_getElem? (i := 784) (by decide +kernel)) (by decide +kernel), zWS_in (List.mem_of_getElem? (i := 783) (by decide +kernel)) (by decide +kernel), zWS_in (List.mem_of_getElem? (i := 134) (by decide +kernel)) (by decide +kernel)⟩
theorem zmminw : Cond.static Lib.Math.min.name ∈ zWS ∧ Cond.initialized "java/lang/Math" ∈ zWS ∧ Cond.code Lib.Math.min.name Lib.Math.min.code 2 (some .int) ∈ zWS := ⟨zWS_in (List.mem_of_getElem? (i := 589) (by decide +kernel)) (by decide +kernel), zWS_in (List.mem_of_getElem? (i := 133) (by decide +kernel)) (by decide +kernel), zWS_in (List.mem_of_getElem? (i := 590) (by decide +kernel)) (by decide +kernel)⟩
theorem zmmaxw : Cond.static Lib.Math.max.name ∈ zWS ∧ Cond.initialized "java/lang/Math" ∈ zWS ∧ Cond.code Lib.Math.max.name Lib.Math.max.code 2 (some .int) ∈ zWS := ⟨zWS_in (List.mem_of_getElem? (i := 603) (by decide +kernel)) (by decide +kernel), zWS_in (List.mem_of_getElem? (i := 133) (by decide +kernel)) (by decide +kernel), zWS_in (List.mem_of_getElem? (i := 604) (by decide +kernel)) (by decide +kernel)⟩
theorem dX11_hasBit_0 : decode YX11_hasBit.2.1 0 = .ok (.iload_n 0, 1) := by decide +kernel
theorem dX11_hasBit_1 : decode YX11_hasBit.2.1 1 = .ok (.iload_n 1, 1) := by decide +kernel
theorem dX11_hasBit_2 : decode YX11_hasBit.2.1 2 = .ok (.ishr, 1) := by decide +kernel
theorem dX11_hasBit_3 : decode YX11_hasBit.2.1 3 = .ok (.iconst 1, 1) := by decide +kernel
theorem dX11_hasBit_4 : decode YX11_hasBit.2.1 4 = .ok (.iand, 1) := by decide +kernel
theorem dX11_hasBit_5 : decode YX11_hasBit.2.1 5 = .ok (.ifCond .eq 7, 3) := by decide +kernel
theorem dX11_hasBit_8 : decode YX11_hasBit.2.1 8 = .ok (.iconst 1, 1) := by decide +kernel
theorem dX11_hasBit_9 : decode YX11_hasBit.2.1 9 = .ok (.goto 4, 3) := by decide +kernel
theorem dX11_hasBit_12 : decode YX11_hasBit.2.1 12 = .ok (.iconst 0, 1) := by decide +kernel
theorem dX11_hasBit_13 : decode YX11_hasBit.2.1 13 = .ok (.ireturn, 1) := by decide +kernel
theorem dX1_bunsAt_0 : decode YX1_bunsAt.2.1 0 = .ok (.iload_n 1, 1) := by decide +kernel
theorem dX1_bunsAt_1 : decode YX1_bunsAt.2.1 1 = .ok (.invokestatic 66, 3) := by decide +kernel
theorem dX1_bunsAt_4 : decode YX1_bunsAt.2.1 4 = .ok (.ifCond .eq 12, 3) := by decide +kernel
theorem dX1_bunsAt_7 : decode YX1_bunsAt.2.1 7 = .ok (.aload_n 0, 1) := by decide +kernel
theorem dX1_bunsAt_8 : decode YX1_bunsAt.2.1 8 = .ok (.getfield 30, 3) := by decide +kernel
theorem dX1_bunsAt_11 : decode YX1_bunsAt.2.1 11 = .ok (.iload_n 1, 1) := by decide +kernel
theorem dX1_bunsAt_12 : decode YX1_bunsAt.2.1 12 = .ok (.iaload, 1) := by decide +kernel
theorem dX1_bunsAt_13 : decode YX1_bunsAt.2.1 13 = .ok (.goto 4, 3) := by decide +kernel
theorem dX1_bunsAt_16 : decode YX1_bunsAt.2.1 16 = .ok (.iconst 0, 1) := by decide +kernel
theorem dX1_bunsAt_17 : decode YX1_bunsAt.2.1 17 = .ok (.ireturn, 1) := by decide +kernel
theorem dX1_copyFrom_0 : decode YX1_copyFrom.2.1 0 = .ok (.aload_n 1, 1) := by decide +kernel
theorem dX1_copyFrom_1 : decode YX1_copyFrom.2.1 1 = .ok (.getfield 9, 3) := by decide +kernel
theorem dX1_copyFrom_4 : decode YX1_copyFrom.2.1 4 = .ok (.iconst 0, 1) := by decide +kernel
theorem dX1_copyFrom_5 : decode YX1_copyFrom.2.1 5 = .ok (.aload_n 0, 1) := by decide +kernel
theorem dX1_copyFrom_6 : decode YX1_copyFrom.2.1 6 = .ok (.getfield 9, 3) := by decide +kernel
theorem dX1_copyFrom_9 : decode YX1_copyFrom.2.1 9 = .ok (.iconst 0, 1) := by decide +kernel
theorem dX1_copyFrom_10 : decode YX1_copyFrom.2.1 10 = .ok (.bipush 36, 2) := by decide +kernel
theorem dX1_copyFrom_12 : decode YX1_copyFrom.2.1 12 = .ok (.invokestatic 52, 3) := by decide +kernel
theorem dX1_copyFrom_15 : decode YX1_copyFrom.2.1 15 = .ok (.aload_n 1, 1) := by decide +kernel
theorem dX1_copyFrom_16 : decode YX1_copyFrom.2.1 16 = .ok (.getfield 15, 3) := by decide +kernel
theorem dX1_copyFrom_19 : decode YX1_copyFrom.2.1 19 = .ok (.iconst 0, 1) := by decide +kernel
theorem dX1_copyFrom_20 : decode YX1_copyFrom.2.1 20 = .ok (.aload_n 0, 1) := by decide +kernel
theorem dX1_copyFrom_21 : decode YX1_copyFrom.2.1 21 = .ok (.getfield 15, 3) := by decide +kernel
theorem dX1_copyFrom_24 : decode YX1_copyFrom.2.1 24 = .ok (.iconst 0, 1) := by decide +kernel
theorem dX1_copyFrom_25 : decode YX1_copyFrom.2.1 25 = .ok (.bipush 6, 2) := by decide +kernel
theorem dX1_copyFrom_27 : decode YX1_copyFrom.2.1 27 = .ok (.invokestatic 52, 3) := by decide +kernel
theorem dX1_copyFrom_30 : decode YX1_copyFrom.2.1 30 = .ok (.aload_n 1, 1) := by decide +kernel
theorem dX1_copyFrom_31 : decode YX1_copyFrom.2.1 31 = .ok (.getfield 18, 3) := by decide +kernel
theorem dX1_copyFrom_34 : decode YX1_copyFrom.2.1 34 = .ok (.iconst 0, 1) := by decide +kernel
theorem dX1_copyFrom_35 : decode YX1_copyFrom.2.1 35 = .ok (.aload_n 0, 1) := by decide +kernel
theorem dX1_copyFrom_36 : decode YX1_copyFrom.2.1 36 = .ok (.getfield 18, 3) := by decide +kernel
theorem dX1_copyFrom_39 : decode YX1_copyFrom.2.1 39 = .ok (.iconst 0, 1) := by decide +kernel
theorem dX1_copyFrom_40 : decode YX1_copyFrom.2.1 40 = .ok (.bipush 6, 2) := by decide +kernel
theorem dX1_copyFrom_42 : decode YX1_copyFrom.2.1 42 = .ok (.invokestatic 52, 3) := by decide +kernel
theorem dX1_copyFrom_45 : decode YX1_copyFrom.2.1 45 = .ok (.aload_n 1, 1) := by decide +kernel
theorem dX1_copyFrom_46 : decode YX1_copyFrom.2.1 46 = .ok (.getfield 21, 3) := by decide +kernel
theorem dX1_copyFrom_49 : decode YX1_copyFrom.2.1 49 = .ok (.iconst 0, 1) := by decide +kernel
theorem dX1_copyFrom_50 : decode YX1_copyFrom.2.1 50 = .ok (.aload_n 0, 1) := by decide +kernel
theorem dX1_copyFrom_51 : decode YX1_copyFrom.2.1 51 = .ok (.getfield 21, 3) := by decide +kernel
theorem dX1_copyFrom_54 : decode YX1_copyFrom.2.1 54 = .ok (.iconst 0, 1) := by decide +kernel
theorem dX1_copyFrom_55 : decode YX1_copyFrom.2.1 55 = .ok (.bipush 6, 2) := by decide +kernel
theorem dX1_copyFrom_57 : decode YX1_copyFrom.2.1 57 = .ok (.invokestatic 52, 3) := by decide +kernel
theorem dX1_copyFrom_60 : decode YX1_copyFrom.2.1 60 = .ok (.aload_n 1, 1) := by decide +kernel
theorem dX1_copyFrom_61 : decode YX1_copyFrom.2.1 61 = .ok (.getfield 24, 3) := by decide +kernel
theorem dX1_copyFrom_64 : decode YX1_copyFrom.2.1 64 = .ok (.iconst 0, 1) := by decide +kernel
theorem dX1_copyFrom_65 : decode YX1_copyFrom.2.1 65 = .ok (.aload_n 0, 1) := by decide +kernel
theorem dX1_copyFrom_66 : decode YX1_copyFrom.2.1 66 = .ok (.getfield 24, 3) := by decide +kernel
theorem dX1_copyFrom_69 : decode YX1_copyFrom.2.1 69 = .ok (.iconst 0, 1) := by decide +kernel
theorem dX1_copyFrom_70 : decode YX1_copyFrom.2.1 70 = .ok (.bipush 48, 2) := by decide +kernel
theorem dX1_copyFrom_72 : decode YX1_copyFrom.2.1 72 = .ok (.invokestatic 52, 3) := by decide +kernel
theorem dX1_copyFrom_75 : decode YX1_copyFrom.2.1 75 = .ok (.aload_n 1, 1) := by decide +kernel
theorem dX1_copyFrom_76 : decode YX1_copyFrom.2.1 76 = .ok (.getfield 27, 3) := by decide +kernel
theorem dX1_copyFrom_79 : decode YX1_copyFrom.2.1 79 = .ok (.iconst 0, 1) := by decide +kernel
theorem dX1_copyFrom_80 : decode YX1_copyFrom.2.1 80 = .ok (.aload_n 0, 1) := by decide +kernel
theorem dX1_copyFrom_81 : decode YX1_copyFrom.2.1 81 = .ok (.getfield 27, 3) := by decide +kernel
theorem dX1_copyFrom_84 : decode YX1_copyFrom.2.1 84 = .ok (.iconst 0, 1) := by decide +kernel
theorem dX1_copyFrom_85 : decode YX1_copyFrom.2.1 85 = .ok (.bipush 6, 2) := by decide +kernel
theorem dX1_copyFrom_87 : decode YX1_copyFrom.2.1 87 = .ok (.invokestatic 52, 3) := by decide +kernel
theorem dX1_copyFrom_90 : decode YX1_copyFrom.2.1 90 = .ok (.aload_n 1, 1) := by decide +kernel
theorem dX1_copyFrom_91 : decode YX1_copyFrom.2.1 91 = .ok (.getfield 30, 3) := by decide +kernel
theorem dX1_copyFrom_94 : decode YX1_copyFrom.2.1 94 = .ok (.iconst 0, 1) := by decide +kernel
theorem dX1_copyFrom_95 : decode YX1_copyFrom.2.1 95 = .ok (.aload_n 0, 1) := by decide +kernel
theorem dX1_copyFrom_96 : decode YX1_copyFrom.2.1 96 = .ok (.getfield 30, 3) := by decide +kernel
theorem dX1_copyFrom_99 : decode YX1_copyFrom.2.1 99 = .ok (.iconst 0, 1) := by decide +kernel
theorem dX1_copyFrom_100 : decode YX1_copyFrom.2.1 100 = .ok (.bipush 8, 2) := by decide +kernel
theorem dX1_copyFrom_102 : decode YX1_copyFrom.2.1 102 = .ok (.invokestatic 52, 3) := by decide +kernel
theorem dX1_copyFrom_105 : decode YX1_copyFrom.2.1 105 = .ok (.aload_n 1, 1) := by decide +kernel
theorem dX1_copyFrom_106 : decode YX1_copyFrom.2.1 106 = .ok (.getfield 33, 3) := by decide +kernel
theorem dX1_copyFrom_109 : decode YX1_copyFrom.2.1 109 = .ok (.iconst 0, 1) := by decide +kernel
theorem dX1_copyFrom_110 : decode YX1_copyFrom.2.1 110 = .ok (.aload_n 0, 1) := by decide +kernel
theorem dX1_copyFrom_111 : decode YX1_copyFrom.2.1 111 = .ok (.getfield 33, 3) := by decide +kernel
theorem dX1_copyFrom_114 : decode YX1_copyFrom.2.1 114 = .ok (.iconst 0, 1) := by decide +kernel
theorem dX1_copyFrom_115 : decode YX1_copyFrom.2.1 115 = .ok (.bipush 8, 2) := by decide +kernel
theorem dX1_copyFrom_117 : decode YX1_copyFrom.2.1 117 = .ok (.invokestatic 52, 3) := by decide +kernel
theorem dX1_copyFrom_120 : decode YX1_copyFrom.2.1 120 = .ok (.aload_n 0, 1) := by decide +kernel
theorem dX1_copyFrom_121 : decode YX1_copyFrom.2.1 121 = .ok (.aload_n 1, 1) := by decide +kernel
theorem dX1_copyFrom_122 : decode YX1_copyFrom.2.1 122 = .ok (.getfield 45, 3) := by decide +kernel
theorem dX1_copyFrom_125 : decode YX1_copyFrom.2.1 125 = .ok (.putfield 45, 3) := by decide +kernel
theorem dX1_copyFrom_128 : decode YX1_copyFrom.2.1 128 = .ok (.aload_n 0, 1) := by decide +kernel
theorem dX1_copyFrom_129 : decode YX1_copyFrom.2.1 129 = .ok (.aload_n 1, 1) := by decide +kernel
theorem dX1_copyFrom_130 : decode YX1_copyFrom.2.1 130 = .ok (.getfield 49, 3) := by decide +kernel
theorem dX1_copyFrom_133 : decode YX1_copyFrom.2.1 133 = .ok (.putfield 49, 3) := by decide +kernel
theorem dX1_copyFrom_136 : decode YX1_copyFrom.2.1 136 = .ok (.return_, 1) := by decide +kernel
theorem dX1_findBun_0 : decode YX1_findBun.2.1 0 = .ok (.aload_n 0, 1) := by decide +kernel
theorem dX1_findBun_1 : decode YX1_findBun.2.1 1 = .ok (.iload_n 1, 1) := by decide +kernel
theorem dX1_findBun_2 : decode YX1_findBun.2.1 2 = .ok (.invokevirtual 88, 3) := by decide +kernel
theorem dX1_findBun_5 : decode YX1_findBun.2.1 5 = .ok (.istore_n 2, 1) := by decide +kernel
theorem dX1_findBun_6 : decode YX1_findBun.2.1 6 = .ok (.aload_n 0, 1) := by decide +kernel
theorem dX1_findBun_7 : decode YX1_findBun.2.1 7 = .ok (.getfield 18, 3) := by decide +kernel
theorem dX1_findBun_10 : decode YX1_findBun.2.1 10 = .ok (.iload_n 1, 1) := by decide +kernel
theorem dX1_findBun_11 : decode YX1_findBun.2.1 11 = .ok (.iaload, 1) := by decide +kernel
theorem dX1_findBun_12 : decode YX1_findBun.2.1 12 = .ok (.iconst (-1), 1) := by decide +kernel
theorem dX1_findBun_13 : decode YX1_findBun.2.1 13 = .ok (.if_icmp .eq 48, 3) := by decide +kernel
theorem dX1_findBun_16 : decode YX1_findBun.2.1 16 = .ok (.aload_n 0, 1) := by decide +kernel
theorem dX1_findBun_17 : decode YX1_findBun.2.1 17 = .ok (.iload_n 2, 1) := by decide +kernel
theorem dX1_findBun_18 : decode YX1_findBun.2.1 18 = .ok (.invokevirtual 126, 3) := by decide +kernel
theorem dX1_findBun_21 : decode YX1_findBun.2.1 21 = .ok (.ifCond .le 40, 3) := by decide +kernel
theorem dX1_findBun_24 : decode YX1_findBun.2.1 24 = .ok (.iload_n 2, 1) := by decide +kernel
theorem dX1_findBun_25 : decode YX1_findBun.2.1 25 = .ok (.invokestatic 66, 3) := by decide +kernel
theorem dX1_findBun_28 : decode YX1_findBun.2.1 28 = .ok (.ifCond .eq 33, 3) := by decide +kernel
theorem dX1_findBun_31 : decode YX1_findBun.2.1 31 = .ok (.aload_n 0, 1) := by decide +kernel
theorem dX1_findBun_32 : decode YX1_findBun.2.1 32 = .ok (.getfield 30, 3) := by decide +kernel
theorem dX1_findBun_35 : decode YX1_findBun.2.1 35 = .ok (.iload_n 2, 1) := by decide +kernel
theorem dX1_findBun_36 : decode YX1_findBun.2.1 36 = .ok (.dup2, 1) := by decide +kernel
theorem dX1_findBun_37 : decode YX1_findBun.2.1 37 = .ok (.iaload, 1) := by decide +kernel
theorem dX1_findBun_38 : decode YX1_findBun.2.1 38 = .ok (.iconst 1, 1) := by decide +kernel
theorem dX1_findBun_39 : decode YX1_findBun.2.1 39 = .ok (.isub, 1) := by decide +kernel
theorem dX1_findBun_40 : decode YX1_findBun.2.1 40 = .ok (.iastore, 1) := by decide +kernel
theorem dX1_findBun_41 : decode YX1_findBun.2.1 41 = .ok (.aload_n 0, 1) := by decide +kernel
theorem dX1_findBun_42 : decode YX1_findBun.2.1 42 = .ok (.getfield 15, 3) := by decide +kernel
theorem dX1_findBun_45 : decode YX1_findBun.2.1 45 = .ok (.iload_n 1, 1) := by decide +kernel
theorem dX1_findBun_46 : decode YX1_findBun.2.1 46 = .ok (.dup2, 1) := by decide +kernel
theorem dX1_findBun_47 : decode YX1_findBun.2.1 47 = .ok (.iaload, 1) := by decide +kernel
theorem dX1_findBun_48 : decode YX1_findBun.2.1 48 = .ok (.iconst 1, 1) := by decide +kernel
theorem dX1_findBun_49 : decode YX1_findBun.2.1 49 = .ok (.iadd, 1) := by decide +kernel
theorem dX1_findBun_50 : decode YX1_findBun.2.1 50 = .ok (.iastore, 1) := by decide +kernel
theorem dX1_findBun_51 : decode YX1_findBun.2.1 51 = .ok (.aload_n 0, 1) := by decide +kernel
theorem dX1_findBun_52 : decode YX1_findBun.2.1 52 = .ok (.dup, 1) := by decide +kernel
theorem dX1_findBun_53 : decode YX1_findBun.2.1 53 = .ok (.getfield 49, 3) := by decide +kernel
theorem dX1_findBun_56 : decode YX1_findBun.2.1 56 = .ok (.iconst 1, 1) := by decide +kernel
theorem dX1_findBun_57 : decode YX1_findBun.2.1 57 = .ok (.iadd, 1) := by decide +kernel
theorem dX1_findBun_58 : decode YX1_findBun.2.1 58 = .ok (.putfield 49, 3) := by decide +kernel
theorem dX1_findBun_61 : decode YX1_findBun.2.1 61 = .ok (.return_, 1) := by decide +kernel
theorem dX1_followedBy_0 : decode YX1_followedBy.2.1 0 = .ok (.iload_n 1, 1) := by decide +kernel
theorem dX1_followedBy_1 : decode YX1_followedBy.2.1 1 = .ok (.invokestatic 58, 3) := by decide +kernel
theorem dX1_followedBy_4 : decode YX1_followedBy.2.1 4 = .ok (.ifCond .eq 12, 3) := by decide +kernel
theorem dX1_followedBy_7 : decode YX1_followedBy.2.1 7 = .ok (.aload_n 0, 1) := by decide +kernel
theorem dX1_followedBy_8 : decode YX1_followedBy.2.1 8 = .ok (.getfield 18, 3) := by decide +kernel
theorem dX1_followedBy_11 : decode YX1_followedBy.2.1 11 = .ok (.iload_n 1, 1) := by decide +kernel
theorem dX1_followedBy_12 : decode YX1_followedBy.2.1 12 = .ok (.iaload, 1) := by decide +kernel
theorem dX1_followedBy_13 : decode YX1_followedBy.2.1 13 = .ok (.goto 4, 3) := by decide +kernel
theorem dX1_followedBy_16 : decode YX1_followedBy.2.1 16 = .ok (.iconst (-1), 1) := by decide +kernel
theorem dX1_followedBy_17 : decode YX1_followedBy.2.1 17 = .ok (.ireturn, 1) := by decide +kernel
theorem dX1_lastOfRow_0 : decode YX1_lastOfRow.2.1 0 = .ok (.iconst 1, 1) := by decide +kernel
theorem dX1_lastOfRow_1 : decode YX1_lastOfRow.2.1 1 = .ok (.iload_n 1, 1) := by decide +kernel
theorem dX1_lastOfRow_2 : decode YX1_lastOfRow.2.1 2 = .ok (.ishl, 1) := by decide +kernel
theorem dX1_lastOfRow_3 : decode YX1_lastOfRow.2.1 3 = .ok (.istore_n 2, 1) := by decide +kernel
theorem dX1_lastOfRow_4 : decode YX1_lastOfRow.2.1 4 = .ok (.iload_n 1, 1) := by decide +kernel
theorem dX1_lastOfRow_5 : decode YX1_lastOfRow.2.1 5 = .ok (.istore_n 3, 1) := by decide +kernel
theorem dX1_lastOfRow_6 : decode YX1_lastOfRow.2.1 6 = .ok (.iconst 0, 1) := by decide +kernel
theorem dX1_lastOfRow_7 : decode YX1_lastOfRow.2.1 7 = .ok (.istore 4, 2) := by decide +kernel
theorem dX1_lastOfRow_9 : decode YX1_lastOfRow.2.1 9 = .ok (.iload 4, 2) := by decide +kernel
theorem dX1_lastOfRow_11 : decode YX1_lastOfRow.2.1 11 = .ok (.bipush 6, 2) := by decide +kernel
theorem dX1_lastOfRow_13 : decode YX1_lastOfRow.2.1 13 = .ok (.if_icmp .ge 44, 3) := by decide +kernel
theorem dX1_lastOfRow_16 : decode YX1_lastOfRow.2.1 16 = .ok (.aload_n 0, 1) := by decide +kernel
theorem dX1_lastOfRow_17 : decode YX1_lastOfRow.2.1 17 = .ok (.iload_n 3, 1) := by decide +kernel
theorem dX1_lastOfRow_18 : decode YX1_lastOfRow.2.1 18 = .ok (.invokevirtual 69, 3) := by decide +kernel
theorem dX1_lastOfRow_21 : decode YX1_lastOfRow.2.1 21 = .ok (.istore 5, 2) := by decide +kernel
theorem dX1_lastOfRow_23 : decode YX1_lastOfRow.2.1 23 = .ok (.iload 5, 2) := by decide +kernel
theorem dX1_lastOfRow_25 : decode YX1_lastOfRow.2.1 25 = .ok (.iconst (-1), 1) := by decide +kernel
theorem dX1_lastOfRow_26 : decode YX1_lastOfRow.2.1 26 = .ok (.if_icmp .eq 31, 3) := by decide +kernel
theorem dX1_lastOfRow_29 : decode YX1_lastOfRow.2.1 29 = .ok (.iload_n 2, 1) := by decide +kernel
theorem dX1_lastOfRow_30 : decode YX1_lastOfRow.2.1 30 = .ok (.iload 5, 2) := by decide +kernel
theorem dX1_lastOfRow_32 : decode YX1_lastOfRow.2.1 32 = .ok (.invokestatic 84, 3) := by decide +kernel
theorem dX1_lastOfRow_35 : decode YX1_lastOfRow.2.1 35 = .ok (.ifCond .eq 6, 3) := by decide +kernel
theorem dX1_lastOfRow_38 : decode YX1_lastOfRow.2.1 38 = .ok (.goto 19, 3) := by decide +kernel
theorem dX1_lastOfRow_41 : decode YX1_lastOfRow.2.1 41 = .ok (.iload_n 2, 1) := by decide +kernel
theorem dX1_lastOfRow_42 : decode YX1_lastOfRow.2.1 42 = .ok (.iconst 1, 1) := by decide +kernel
theorem dX1_lastOfRow_43 : decode YX1_lastOfRow.2.1 43 = .ok (.iload 5, 2) := by decide +kernel
theorem dX1_lastOfRow_45 : decode YX1_lastOfRow.2.1 45 = .ok (.ishl, 1) := by decide +kernel
theorem dX1_lastOfRow_46 : decode YX1_lastOfRow.2.1 46 = .ok (.ior, 1) := by decide +kernel
theorem dX1_lastOfRow_47 : decode YX1_lastOfRow.2.1 47 = .ok (.istore_n 2, 1) := by decide +kernel
theorem dX1_lastOfRow_48 : decode YX1_lastOfRow.2.1 48 = .ok (.iload 5, 2) := by decide +kernel
theorem dX1_lastOfRow_50 : decode YX1_lastOfRow.2.1 50 = .ok (.istore_n 3, 1) := by decide +kernel
theorem dX1_lastOfRow_51 : decode YX1_lastOfRow.2.1 51 = .ok (.iinc 4 1, 3) := by decide +kernel
theorem dX1_lastOfRow_54 : decode YX1_lastOfRow.2.1 54 = .ok (.goto (-45), 3) := by decide +kernel
theorem dX1_lastOfRow_57 : decode YX1_lastOfRow.2.1 57 = .ok (.iload_n 3, 1) := by decide +kernel
theorem dX1_lastOfRow_58 : decode YX1_lastOfRow.2.1 58 = .ok (.ireturn, 1) := by decide +kernel
theorem dX1_mayBe_0 : decode YX1_mayBe.2.1 0 = .ok (.iload_n 0, 1) := by decide +kernel
theorem dX1_mayBe_1 : decode YX1_mayBe.2.1 1 = .ok (.ifCond .lt 13, 3) := by decide +kernel
theorem dX1_mayBe_4 : decode YX1_mayBe.2.1 4 = .ok (.iload_n 0, 1) := by decide +kernel
theorem dX1_mayBe_5 : decode YX1_mayBe.2.1 5 = .ok (.bipush 6, 2) := by decide +kernel
theorem dX1_mayBe_7 : decode YX1_mayBe.2.1 7 = .ok (.if_icmp .ge 7, 3) := by decide +kernel
theorem dX1_mayBe_10 : decode YX1_mayBe.2.1 10 = .ok (.iconst 1, 1) := by decide +kernel
theorem dX1_mayBe_11 : decode YX1_mayBe.2.1 11 = .ok (.goto 4, 3) := by decide +kernel
theorem dX1_mayBe_14 : decode YX1_mayBe.2.1 14 = .ok (.iconst 0, 1) := by decide +kernel
theorem dX1_mayBe_15 : decode YX1_mayBe.2.1 15 = .ok (.ireturn, 1) := by decide +kernel
theorem dX1_mayBeCorner_0 : decode YX1_mayBeCorner.2.1 0 = .ok (.iload_n 0, 1) := by decide +kernel
theorem dX1_mayBeCorner_1 : decode YX1_mayBeCorner.2.1 1 = .ok (.ifCond .lt 13, 3) := by decide +kernel
theorem dX1_mayBeCorner_4 : decode YX1_mayBeCorner.2.1 4 = .ok (.iload_n 0, 1) := by decide +kernel
theorem dX1_mayBeCorner_5 : decode YX1_mayBeCorner.2.1 5 = .ok (.bipush 8, 2) := by decide +kernel
theorem dX1_mayBeCorner_7 : decode YX1_mayBeCorner.2.1 7 = .ok (.if_icmp .ge 7, 3) := by decide +kernel
theorem dX1_mayBeCorner_10 : decode YX1_mayBeCorner.2.1 10 = .ok (.iconst 1, 1) := by decide +kernel
theorem dX1_mayBeCorner_11 : decode YX1_mayBeCorner.2.1 11 = .ok (.goto 4, 3) := by decide +kernel
theorem dX1_mayBeCorner_14 : decode YX1_mayBeCorner.2.1 14 = .ok (.iconst 0, 1) := by decide +kernel
theorem dX1_mayBeCorner_15 : decode YX1_mayBeCorner.2.1 15 = .ok (.ireturn, 1) := by decide +kernel
theorem dX1_move_0 : decode YX1_move.2.1 0 = .ok (.iload_n 1, 1) := by decide +kernel
theorem dX1_move_1 : decode YX1_move.2.1 1 = .ok (.bipush 6, 2) := by decide +kernel
theorem dX1_move_3 : decode YX1_move.2.1 3 = .ok (.imul, 1) := by decide +kernel
theorem dX1_move_4 : decode YX1_move.2.1 4 = .ok (.istore_n 3, 1) := by decide +kernel
theorem dX1_move_5 : decode YX1_move.2.1 5 = .ok (.aload_n 0, 1) := by decide +kernel
theorem dX1_move_6 : decode YX1_move.2.1 6 = .ok (.getfield 9, 3) := by decide +kernel
theorem dX1_move_9 : decode YX1_move.2.1 9 = .ok (.iload_n 3, 1) := by decide +kernel
theorem dX1_move_10 : decode YX1_move.2.1 10 = .ok (.iaload, 1) := by decide +kernel
theorem dX1_move_11 : decode YX1_move.2.1 11 = .ok (.iload_n 2, 1) := by decide +kernel
theorem dX1_move_12 : decode YX1_move.2.1 12 = .ok (.if_icmp .eq 7, 3) := by decide +kernel
theorem dX1_move_15 : decode YX1_move.2.1 15 = .ok (.iconst 1, 1) := by decide +kernel
theorem dX1_move_16 : decode YX1_move.2.1 16 = .ok (.goto 4, 3) := by decide +kernel
theorem dX1_move_19 : decode YX1_move.2.1 19 = .ok (.iconst 0, 1) := by decide +kernel
theorem dX1_move_20 : decode YX1_move.2.1 20 = .ok (.istore 4, 2) := by decide +kernel
theorem dX1_move_22 : decode YX1_move.2.1 22 = .ok (.iconst 5, 1) := by decide +kernel
theorem dX1_move_23 : decode YX1_move.2.1 23 = .ok (.istore 5, 2) := by decide +kernel
theorem dX1_move_25 : decode YX1_move.2.1 25 = .ok (.iload 5, 2) := by decide +kernel
theorem dX1_move_27 : decode YX1_move.2.1 27 = .ok (.ifCond .le 29, 3) := by decide +kernel
theorem dX1_move_30 : decode YX1_move.2.1 30 = .ok (.aload_n 0, 1) := by decide +kernel
theorem dX1_move_31 : decode YX1_move.2.1 31 = .ok (.getfield 9, 3) := by decide +kernel
theorem dX1_move_34 : decode YX1_move.2.1 34 = .ok (.iload_n 3, 1) := by decide +kernel
theorem dX1_move_35 : decode YX1_move.2.1 35 = .ok (.iload 5, 2) := by decide +kernel
theorem dX1_move_37 : decode YX1_move.2.1 37 = .ok (.iadd, 1) := by decide +kernel
theorem dX1_move_38 : decode YX1_move.2.1 38 = .ok (.aload_n 0, 1) := by decide +kernel
theorem dX1_move_39 : decode YX1_move.2.1 39 = .ok (.getfield 9, 3) := by decide +kernel
theorem dX1_move_42 : decode YX1_move.2.1 42 = .ok (.iload_n 3, 1) := by decide +kernel
theorem dX1_move_43 : decode YX1_move.2.1 43 = .ok (.iload 5, 2) := by decide +kernel
theorem dX1_move_45 : decode YX1_move.2.1 45 = .ok (.iadd, 1) := by decide +kernel
theorem dX1_move_46 : decode YX1_move.2.1 46 = .ok (.iconst 1, 1) := by decide +kernel
theorem dX1_move_47 : decode YX1_move.2.1 47 = .ok (.isub, 1) := by decide +kernel
theorem dX1_move_48 : decode YX1_move.2.1 48 = .ok (.iaload, 1) := by decide +kernel
theorem dX1_move_49 : decode YX1_move.2.1 49 = .ok (.iastore, 1) := by decide +kernel
theorem dX1_move_50 : decode YX1_move.2.1 50 = .ok (.iinc 5 (-1), 3) := by decide +kernel
theorem dX1_move_53 : decode YX1_move.2.1 53 = .ok (.goto (-28), 3) := by decide +kernel
theorem dX1_move_56 : decode YX1_move.2.1 56 = .ok (.aload_n 0, 1) := by decide +kernel
theorem dX1_move_57 : decode YX1_move.2.1 57 = .ok (.getfield 9, 3) := by decide +kernel
theorem dX1_move_60 : decode YX1_move.2.1 60 = .ok (.iload_n 3, 1) := by decide +kernel
theorem dX1_move_61 : decode YX1_move.2.1 61 = .ok (.iload_n 2, 1) := by decide +kernel
theorem dX1_move_62 : decode YX1_move.2.1 62 = .ok (.iastore, 1) := by decide +kernel
theorem dX1_move_63 : decode YX1_move.2.1 63 = .ok (.iload 4, 2) := by decide +kernel
theorem dX1_move_65 : decode YX1_move.2.1 65 = .ok (.ifCond .eq 30, 3) := by decide +kernel
theorem dX1_move_68 : decode YX1_move.2.1 68 = .ok (.iload_n 2, 1) := by decide +kernel
theorem dX1_move_69 : decode YX1_move.2.1 69 = .ok (.invokestatic 66, 3) := by decide +kernel
theorem dX1_move_72 : decode YX1_move.2.1 72 = .ok (.ifCond .eq 23, 3) := by decide +kernel
theorem dX1_move_75 : decode YX1_move.2.1 75 = .ok (.aload_n 0, 1) := by decide +kernel
theorem dX1_move_76 : decode YX1_move.2.1 76 = .ok (.getfield 33, 3) := by decide +kernel
theorem dX1_move_79 : decode YX1_move.2.1 79 = .ok (.iload_n 2, 1) := by decide +kernel
theorem dX1_move_80 : decode YX1_move.2.1 80 = .ok (.sipush 9999, 3) := by decide +kernel
theorem dX1_move_83 : decode YX1_move.2.1 83 = .ok (.aload_n 0, 1) := by decide +kernel
theorem dX1_move_84 : decode YX1_move.2.1 84 = .ok (.getfield 33, 3) := by decide +kernel
theorem dX1_move_87 : decode YX1_move.2.1 87 = .ok (.iload_n 2, 1) := by decide +kernel
theorem dX1_move_88 : decode YX1_move.2.1 88 = .ok (.iaload, 1) := by decide +kernel
theorem dX1_move_89 : decode YX1_move.2.1 89 = .ok (.iconst 1, 1) := by decide +kernel
theorem dX1_move_90 : decode YX1_move.2.1 90 = .ok (.iadd, 1) := by decide +kernel
theorem dX1_move_91 : decode YX1_move.2.1 91 = .ok (.invokestatic 121, 3) := by decide +kernel
theorem dX1_move_94 : decode YX1_move.2.1 94 = .ok (.iastore, 1) := by decide +kernel
theorem dX1_move_95 : decode YX1_move.2.1 95 = .ok (.return_, 1) := by decide +kernel
theorem dX1_nextPlace_0 : decode YX1_nextPlace.2.1 0 = .ok (.aload_n 0, 1) := by decide +kernel
theorem dX1_nextPlace_1 : decode YX1_nextPlace.2.1 1 = .ok (.getfield 27, 3) := by decide +kernel
theorem dX1_nextPlace_4 : decode YX1_nextPlace.2.1 4 = .ok (.iload_n 2, 1) := by decide +kernel
theorem dX1_nextPlace_5 : decode YX1_nextPlace.2.1 5 = .ok (.iaload, 1) := by decide +kernel
theorem dX1_nextPlace_6 : decode YX1_nextPlace.2.1 6 = .ok (.ifCond .le 13, 3) := by decide +kernel
theorem dX1_nextPlace_9 : decode YX1_nextPlace.2.1 9 = .ok (.aload_n 0, 1) := by decide +kernel
theorem dX1_nextPlace_10 : decode YX1_nextPlace.2.1 10 = .ok (.getfield 24, 3) := by decide +kernel
theorem dX1_nextPlace_13 : decode YX1_nextPlace.2.1 13 = .ok (.iload_n 2, 1) := by decide +kernel
theorem dX1_nextPlace_14 : decode YX1_nextPlace.2.1 14 = .ok (.bipush 8, 2) := by decide +kernel
theorem dX1_nextPlace_16 : decode YX1_nextPlace.2.1 16 = .ok (.imul, 1) := by decide +kernel
theorem dX1_nextPlace_17 : decode YX1_nextPlace.2.1 17 = .ok (.iaload, 1) := by decide +kernel
theorem dX1_nextPlace_18 : decode YX1_nextPlace.2.1 18 = .ok (.ireturn, 1) := by decide +kernel
theorem dX1_nextPlace_19 : decode YX1_nextPlace.2.1 19 = .ok (.aload_n 0, 1) := by decide +kernel
theorem dX1_nextPlace_20 : decode YX1_nextPlace.2.1 20 = .ok (.iload_n 2, 1) := by decide +kernel
theorem dX1_nextPlace_21 : decode YX1_nextPlace.2.1 21 = .ok (.invokevirtual 88, 3) := by decide +kernel
theorem dX1_nextPlace_24 : decode YX1_nextPlace.2.1 24 = .ok (.istore_n 3, 1) := by decide +kernel
theorem dX1_nextPlace_25 : decode YX1_nextPlace.2.1 25 = .ok (.aload_n 0, 1) := by decide +kernel
theorem dX1_nextPlace_26 : decode YX1_nextPlace.2.1 26 = .ok (.getfield 18, 3) := by decide +kernel
theorem dX1_nextPlace_29 : decode YX1_nextPlace.2.1 29 = .ok (.iload_n 2, 1) := by decide +kernel
theorem dX1_nextPlace_30 : decode YX1_nextPlace.2.1 30 = .ok (.iaload, 1) := by decide +kernel
theorem dX1_nextPlace_31 : decode YX1_nextPlace.2.1 31 = .ok (.istore 4, 2) := by decide +kernel
theorem dX1_nextPlace_33 : decode YX1_nextPlace.2.1 33 = .ok (.iload 4, 2) := by decide +kernel
theorem dX1_nextPlace_35 : decode YX1_nextPlace.2.1 35 = .ok (.iconst (-1), 1) := by decide +kernel
theorem dX1_nextPlace_36 : decode YX1_nextPlace.2.1 36 = .ok (.if_icmp .ne 7, 3) := by decide +kernel
theorem dX1_nextPlace_39 : decode YX1_nextPlace.2.1 39 = .ok (.iload_n 3, 1) := by decide +kernel
theorem dX1_nextPlace_40 : decode YX1_nextPlace.2.1 40 = .ok (.goto 22, 3) := by decide +kernel
theorem dX1_nextPlace_43 : decode YX1_nextPlace.2.1 43 = .ok (.aload_n 1, 1) := by decide +kernel
theorem dX1_nextPlace_44 : decode YX1_nextPlace.2.1 44 = .ok (.iload_n 3, 1) := by decide +kernel
theorem dX1_nextPlace_45 : decode YX1_nextPlace.2.1 45 = .ok (.aload_n 0, 1) := by decide +kernel
theorem dX1_nextPlace_46 : decode YX1_nextPlace.2.1 46 = .ok (.iload 4, 2) := by decide +kernel
theorem dX1_nextPlace_48 : decode YX1_nextPlace.2.1 48 = .ok (.aload_n 0, 1) := by decide +kernel
theorem dX1_nextPlace_49 : decode YX1_nextPlace.2.1 49 = .ok (.getfield 21, 3) := by decide +kernel
theorem dX1_nextPlace_52 : decode YX1_nextPlace.2.1 52 = .ok (.iload_n 2, 1) := by decide +kernel
theorem dX1_nextPlace_53 : decode YX1_nextPlace.2.1 53 = .ok (.iaload, 1) := by decide +kernel
theorem dX1_nextPlace_54 : decode YX1_nextPlace.2.1 54 = .ok (.iconst 1, 1) := by decide +kernel
theorem dX1_nextPlace_55 : decode YX1_nextPlace.2.1 55 = .ok (.isub, 1) := by decide +kernel
theorem dX1_nextPlace_56 : decode YX1_nextPlace.2.1 56 = .ok (.invokevirtual 62, 3) := by decide +kernel
theorem dX1_nextPlace_59 : decode YX1_nextPlace.2.1 59 = .ok (.invokevirtual 118, 3) := by decide +kernel
theorem dX1_nextPlace_62 : decode YX1_nextPlace.2.1 62 = .ok (.ireturn, 1) := by decide +kernel
theorem dX1_passMinutes_0 : decode YX1_passMinutes.2.1 0 = .ok (.iconst 0, 1) := by decide +kernel
theorem dX1_passMinutes_1 : decode YX1_passMinutes.2.1 1 = .ok (.istore_n 3, 1) := by decide +kernel
theorem dX1_passMinutes_2 : decode YX1_passMinutes.2.1 2 = .ok (.iload_n 3, 1) := by decide +kernel
theorem dX1_passMinutes_3 : decode YX1_passMinutes.2.1 3 = .ok (.iload_n 2, 1) := by decide +kernel
theorem dX1_passMinutes_4 : decode YX1_passMinutes.2.1 4 = .ok (.if_icmp .ge 106, 3) := by decide +kernel
theorem dX1_passMinutes_7 : decode YX1_passMinutes.2.1 7 = .ok (.iconst 0, 1) := by decide +kernel
theorem dX1_passMinutes_8 : decode YX1_passMinutes.2.1 8 = .ok (.istore 4, 2) := by decide +kernel
theorem dX1_passMinutes_10 : decode YX1_passMinutes.2.1 10 = .ok (.iload 4, 2) := by decide +kernel
theorem dX1_passMinutes_12 : decode YX1_passMinutes.2.1 12 = .ok (.bipush 6, 2) := by decide +kernel
theorem dX1_passMinutes_14 : decode YX1_passMinutes.2.1 14 = .ok (.if_icmp .ge 23, 3) := by decide +kernel
theorem dX1_passMinutes_17 : decode YX1_passMinutes.2.1 17 = .ok (.aload_n 0, 1) := by decide +kernel
theorem dX1_passMinutes_18 : decode YX1_passMinutes.2.1 18 = .ok (.getfield 36, 3) := by decide +kernel
theorem dX1_passMinutes_21 : decode YX1_passMinutes.2.1 21 = .ok (.iload 4, 2) := by decide +kernel
theorem dX1_passMinutes_23 : decode YX1_passMinutes.2.1 23 = .ok (.aload_n 0, 1) := by decide +kernel
theorem dX1_passMinutes_24 : decode YX1_passMinutes.2.1 24 = .ok (.aload_n 1, 1) := by decide +kernel
theorem dX1_passMinutes_25 : decode YX1_passMinutes.2.1 25 = .ok (.iload 4, 2) := by decide +kernel
theorem dX1_passMinutes_27 : decode YX1_passMinutes.2.1 27 = .ok (.invokevirtual 103, 3) := by decide +kernel
theorem dX1_passMinutes_30 : decode YX1_passMinutes.2.1 30 = .ok (.iastore, 1) := by decide +kernel
theorem dX1_passMinutes_31 : decode YX1_passMinutes.2.1 31 = .ok (.iinc 4 1, 3) := by decide +kernel
theorem dX1_passMinutes_34 : decode YX1_passMinutes.2.1 34 = .ok (.goto (-24), 3) := by decide +kernel
theorem dX1_passMinutes_37 : decode YX1_passMinutes.2.1 37 = .ok (.iconst 0, 1) := by decide +kernel
theorem dX1_passMinutes_38 : decode YX1_passMinutes.2.1 38 = .ok (.istore 4, 2) := by decide +kernel
theorem dX1_passMinutes_40 : decode YX1_passMinutes.2.1 40 = .ok (.iload 4, 2) := by decide +kernel
theorem dX1_passMinutes_42 : decode YX1_passMinutes.2.1 42 = .ok (.bipush 6, 2) := by decide +kernel
theorem dX1_passMinutes_44 : decode YX1_passMinutes.2.1 44 = .ok (.if_icmp .ge 28, 3) := by decide +kernel
theorem dX1_passMinutes_47 : decode YX1_passMinutes.2.1 47 = .ok (.aload_n 0, 1) := by decide +kernel
theorem dX1_passMinutes_48 : decode YX1_passMinutes.2.1 48 = .ok (.iload 4, 2) := by decide +kernel
theorem dX1_passMinutes_50 : decode YX1_passMinutes.2.1 50 = .ok (.invokevirtual 107, 3) := by decide +kernel
theorem dX1_passMinutes_53 : decode YX1_passMinutes.2.1 53 = .ok (.aload_n 0, 1) := by decide +kernel
theorem dX1_passMinutes_54 : decode YX1_passMinutes.2.1 54 = .ok (.iload 4, 2) := by decide +kernel
theorem dX1_passMinutes_56 : decode YX1_passMinutes.2.1 56 = .ok (.aload_n 0, 1) := by decide +kernel
theorem dX1_passMinutes_57 : decode YX1_passMinutes.2.1 57 = .ok (.getfield 36, 3) := by decide +kernel
theorem dX1_passMinutes_60 : decode YX1_passMinutes.2.1 60 = .ok (.iload 4, 2) := by decide +kernel
theorem dX1_passMinutes_62 : decode YX1_passMinutes.2.1 62 = .ok (.iaload, 1) := by decide +kernel
theorem dX1_passMinutes_63 : decode YX1_passMinutes.2.1 63 = .ok (.invokevirtual 111, 3) := by decide +kernel
theorem dX1_passMinutes_66 : decode YX1_passMinutes.2.1 66 = .ok (.iinc 4 1, 3) := by decide +kernel
theorem dX1_passMinutes_69 : decode YX1_passMinutes.2.1 69 = .ok (.goto (-29), 3) := by decide +kernel
theorem dX1_passMinutes_72 : decode YX1_passMinutes.2.1 72 = .ok (.iconst 0, 1) := by decide +kernel
theorem dX1_passMinutes_73 : decode YX1_passMinutes.2.1 73 = .ok (.istore 4, 2) := by decide +kernel
theorem dX1_passMinutes_75 : decode YX1_passMinutes.2.1 75 = .ok (.iload 4, 2) := by decide +kernel
theorem dX1_passMinutes_77 : decode YX1_passMinutes.2.1 77 = .ok (.bipush 6, 2) := by decide +kernel
theorem dX1_passMinutes_79 : decode YX1_passMinutes.2.1 79 = .ok (.if_icmp .ge 15, 3) := by decide +kernel
theorem dX1_passMinutes_82 : decode YX1_passMinutes.2.1 82 = .ok (.aload_n 0, 1) := by decide +kernel
theorem dX1_passMinutes_83 : decode YX1_passMinutes.2.1 83 = .ok (.iload 4, 2) := by decide +kernel
theorem dX1_passMinutes_85 : decode YX1_passMinutes.2.1 85 = .ok (.invokevirtual 115, 3) := by decide +kernel
theorem dX1_passMinutes_88 : decode YX1_passMinutes.2.1 88 = .ok (.iinc 4 1, 3) := by decide +kernel
theorem dX1_passMinutes_91 : decode YX1_passMinutes.2.1 91 = .ok (.goto (-16), 3) := by decide +kernel
theorem dX1_passMinutes_94 : decode YX1_passMinutes.2.1 94 = .ok (.aload_n 0, 1) := by decide +kernel
theorem dX1_passMinutes_95 : decode YX1_passMinutes.2.1 95 = .ok (.dup, 1) := by decide +kernel
theorem dX1_passMinutes_96 : decode YX1_passMinutes.2.1 96 = .ok (.getfield 45, 3) := by decide +kernel
theorem dX1_passMinutes_99 : decode YX1_passMinutes.2.1 99 = .ok (.iconst 1, 1) := by decide +kernel
theorem dX1_passMinutes_100 : decode YX1_passMinutes.2.1 100 = .ok (.iadd, 1) := by decide +kernel
theorem dX1_passMinutes_101 : decode YX1_passMinutes.2.1 101 = .ok (.putfield 45, 3) := by decide +kernel
theorem dX1_passMinutes_104 : decode YX1_passMinutes.2.1 104 = .ok (.iinc 3 1, 3) := by decide +kernel
theorem dX1_passMinutes_107 : decode YX1_passMinutes.2.1 107 = .ok (.goto (-105), 3) := by decide +kernel
theorem dX1_passMinutes_110 : decode YX1_passMinutes.2.1 110 = .ok (.return_, 1) := by decide +kernel
theorem dX1_ringOf_0 : decode YX1_ringOf.2.1 0 = .ok (.iconst 0, 1) := by decide +kernel
theorem dX1_ringOf_1 : decode YX1_ringOf.2.1 1 = .ok (.istore_n 2, 1) := by decide +kernel
theorem dX1_ringOf_2 : decode YX1_ringOf.2.1 2 = .ok (.iload_n 1, 1) := by decide +kernel
theorem dX1_ringOf_3 : decode YX1_ringOf.2.1 3 = .ok (.istore_n 3, 1) := by decide +kernel
theorem dX1_ringOf_4 : decode YX1_ringOf.2.1 4 = .ok (.iconst 0, 1) := by decide +kernel
theorem dX1_ringOf_5 : decode YX1_ringOf.2.1 5 = .ok (.istore 4, 2) := by decide +kernel
theorem dX1_ringOf_7 : decode YX1_ringOf.2.1 7 = .ok (.iload 4, 2) := by decide +kernel
theorem dX1_ringOf_9 : decode YX1_ringOf.2.1 9 = .ok (.bipush 6, 2) := by decide +kernel
theorem dX1_ringOf_11 : decode YX1_ringOf.2.1 11 = .ok (.if_icmp .ge 35, 3) := by decide +kernel
theorem dX1_ringOf_14 : decode YX1_ringOf.2.1 14 = .ok (.aload_n 0, 1) := by decide +kernel
theorem dX1_ringOf_15 : decode YX1_ringOf.2.1 15 = .ok (.iload_n 3, 1) := by decide +kernel
theorem dX1_ringOf_16 : decode YX1_ringOf.2.1 16 = .ok (.invokevirtual 69, 3) := by decide +kernel
theorem dX1_ringOf_19 : decode YX1_ringOf.2.1 19 = .ok (.istore_n 3, 1) := by decide +kernel
theorem dX1_ringOf_20 : decode YX1_ringOf.2.1 20 = .ok (.iload_n 3, 1) := by decide +kernel
theorem dX1_ringOf_21 : decode YX1_ringOf.2.1 21 = .ok (.iconst (-1), 1) := by decide +kernel
theorem dX1_ringOf_22 : decode YX1_ringOf.2.1 22 = .ok (.if_icmp .ne 5, 3) := by decide +kernel
theorem dX1_ringOf_25 : decode YX1_ringOf.2.1 25 = .ok (.iconst 0, 1) := by decide +kernel
theorem dX1_ringOf_26 : decode YX1_ringOf.2.1 26 = .ok (.ireturn, 1) := by decide +kernel
theorem dX1_ringOf_27 : decode YX1_ringOf.2.1 27 = .ok (.iload_n 2, 1) := by decide +kernel
theorem dX1_ringOf_28 : decode YX1_ringOf.2.1 28 = .ok (.iconst 1, 1) := by decide +kernel
theorem dX1_ringOf_29 : decode YX1_ringOf.2.1 29 = .ok (.iload_n 3, 1) := by decide +kernel
theorem dX1_ringOf_30 : decode YX1_ringOf.2.1 30 = .ok (.ishl, 1) := by decide +kernel
theorem dX1_ringOf_31 : decode YX1_ringOf.2.1 31 = .ok (.ior, 1) := by decide +kernel
theorem dX1_ringOf_32 : decode YX1_ringOf.2.1 32 = .ok (.istore_n 2, 1) := by decide +kernel
theorem dX1_ringOf_33 : decode YX1_ringOf.2.1 33 = .ok (.iload_n 3, 1) := by decide +kernel
theorem dX1_ringOf_34 : decode YX1_ringOf.2.1 34 = .ok (.iload_n 1, 1) := by decide +kernel
theorem dX1_ringOf_35 : decode YX1_ringOf.2.1 35 = .ok (.if_icmp .ne 5, 3) := by decide +kernel
theorem dX1_ringOf_38 : decode YX1_ringOf.2.1 38 = .ok (.iload_n 2, 1) := by decide +kernel
theorem dX1_ringOf_39 : decode YX1_ringOf.2.1 39 = .ok (.ireturn, 1) := by decide +kernel
theorem dX1_ringOf_40 : decode YX1_ringOf.2.1 40 = .ok (.iinc 4 1, 3) := by decide +kernel
theorem dX1_ringOf_43 : decode YX1_ringOf.2.1 43 = .ok (.goto (-36), 3) := by decide +kernel
theorem dX1_ringOf_46 : decode YX1_ringOf.2.1 46 = .ok (.iconst 0, 1) := by decide +kernel
theorem dX1_ringOf_47 : decode YX1_ringOf.2.1 47 = .ok (.ireturn, 1) := by decide +kernel
theorem dX1_shortenWay_0 : decode YX1_shortenWay.2.1 0 = .ok (.aload_n 0, 1) := by decide +kernel
theorem dX1_shortenWay_1 : decode YX1_shortenWay.2.1 1 = .ok (.getfield 27, 3) := by decide +kernel
theorem dX1_shortenWay_4 : decode YX1_shortenWay.2.1 4 = .ok (.iload_n 1, 1) := by decide +kernel
theorem dX1_shortenWay_5 : decode YX1_shortenWay.2.1 5 = .ok (.iaload, 1) := by decide +kernel
theorem dX1_shortenWay_6 : decode YX1_shortenWay.2.1 6 = .ok (.ifCond .le 60, 3) := by decide +kernel
theorem dX1_shortenWay_9 : decode YX1_shortenWay.2.1 9 = .ok (.iload_n 1, 1) := by decide +kernel
theorem dX1_shortenWay_10 : decode YX1_shortenWay.2.1 10 = .ok (.bipush 8, 2) := by decide +kernel
theorem dX1_shortenWay_12 : decode YX1_shortenWay.2.1 12 = .ok (.imul, 1) := by decide +kernel
theorem dX1_shortenWay_13 : decode YX1_shortenWay.2.1 13 = .ok (.istore_n 2, 1) := by decide +kernel
theorem dX1_shortenWay_14 : decode YX1_shortenWay.2.1 14 = .ok (.aload_n 0, 1) := by decide +kernel
theorem dX1_shortenWay_15 : decode YX1_shortenWay.2.1 15 = .ok (.getfield 27, 3) := by decide +kernel
theorem dX1_shortenWay_18 : decode YX1_shortenWay.2.1 18 = .ok (.iload_n 1, 1) := by decide +kernel
theorem dX1_shortenWay_19 : decode YX1_shortenWay.2.1 19 = .ok (.dup2, 1) := by decide +kernel
theorem dX1_shortenWay_20 : decode YX1_shortenWay.2.1 20 = .ok (.iaload, 1) := by decide +kernel
theorem dX1_shortenWay_21 : decode YX1_shortenWay.2.1 21 = .ok (.iconst 1, 1) := by decide +kernel
theorem dX1_shortenWay_22 : decode YX1_shortenWay.2.1 22 = .ok (.isub, 1) := by decide +kernel
theorem dX1_shortenWay_23 : decode YX1_shortenWay.2.1 23 = .ok (.iastore, 1) := by decide +kernel
theorem dX1_shortenWay_24 : decode YX1_shortenWay.2.1 24 = .ok (.iconst 0, 1) := by decide +kernel
theorem dX1_shortenWay_25 : decode YX1_shortenWay.2.1 25 = .ok (.istore_n 3, 1) := by decide +kernel
theorem dX1_shortenWay_26 : decode YX1_shortenWay.2.1 26 = .ok (.iload_n 3, 1) := by decide +kernel
theorem dX1_shortenWay_27 : decode YX1_shortenWay.2.1 27 = .ok (.aload_n 0, 1) := by decide +kernel
theorem dX1_shortenWay_28 : decode YX1_shortenWay.2.1 28 = .ok (.getfield 27, 3) := by decide +kernel
theorem dX1_shortenWay_31 : decode YX1_shortenWay.2.1 31 = .ok (.iload_n 1, 1) := by decide +kernel
theorem dX1_shortenWay_32 : decode YX1_shortenWay.2.1 32 = .ok (.iaload, 1) := by decide +kernel
theorem dX1_shortenWay_33 : decode YX1_shortenWay.2.1 33 = .ok (.if_icmp .ge 33, 3) := by decide +kernel
theorem dX1_shortenWay_36 : decode YX1_shortenWay.2.1 36 = .ok (.iload_n 3, 1) := by decide +kernel
theorem dX1_shortenWay_37 : decode YX1_shortenWay.2.1 37 = .ok (.bipush 7, 2) := by decide +kernel
theorem dX1_shortenWay_39 : decode YX1_shortenWay.2.1 39 = .ok (.if_icmp .ge 27, 3) := by decide +kernel
theorem dX1_shortenWay_42 : decode YX1_shortenWay.2.1 42 = .ok (.aload_n 0, 1) := by decide +kernel
theorem dX1_shortenWay_43 : decode YX1_shortenWay.2.1 43 = .ok (.getfield 24, 3) := by decide +kernel
theorem dX1_shortenWay_46 : decode YX1_shortenWay.2.1 46 = .ok (.iload_n 2, 1) := by decide +kernel
theorem dX1_shortenWay_47 : decode YX1_shortenWay.2.1 47 = .ok (.iload_n 3, 1) := by decide +kernel
theorem dX1_shortenWay_48 : decode YX1_shortenWay.2.1 48 = .ok (.iadd, 1) := by decide +kernel
theorem dX1_shortenWay_49 : decode YX1_shortenWay.2.1 49 = .ok (.aload_n 0, 1) := by decide +kernel
theorem dX1_shortenWay_50 : decode YX1_shortenWay.2.1 50 = .ok (.getfield 24, 3) := by decide +kernel
theorem dX1_shortenWay_53 : decode YX1_shortenWay.2.1 53 = .ok (.iload_n 2, 1) := by decide +kernel
theorem dX1_shortenWay_54 : decode YX1_shortenWay.2.1 54 = .ok (.iload_n 3, 1) := by decide +kernel
theorem dX1_shortenWay_55 : decode YX1_shortenWay.2.1 55 = .ok (.iadd, 1) := by decide +kernel
theorem dX1_shortenWay_56 : decode YX1_shortenWay.2.1 56 = .ok (.iconst 1, 1) := by decide +kernel
theorem dX1_shortenWay_57 : decode YX1_shortenWay.2.1 57 = .ok (.iadd, 1) := by decide +kernel
theorem dX1_shortenWay_58 : decode YX1_shortenWay.2.1 58 = .ok (.iaload, 1) := by decide +kernel
theorem dX1_shortenWay_59 : decode YX1_shortenWay.2.1 59 = .ok (.iastore, 1) := by decide +kernel
theorem dX1_shortenWay_60 : decode YX1_shortenWay.2.1 60 = .ok (.iinc 3 1, 3) := by decide +kernel
theorem dX1_shortenWay_63 : decode YX1_shortenWay.2.1 63 = .ok (.goto (-37), 3) := by decide +kernel
theorem dX1_shortenWay_66 : decode YX1_shortenWay.2.1 66 = .ok (.return_, 1) := by decide +kernel
theorem dX1_wasAt_0 : decode YX1_wasAt.2.1 0 = .ok (.iload_n 1, 1) := by decide +kernel
theorem dX1_wasAt_1 : decode YX1_wasAt.2.1 1 = .ok (.invokestatic 58, 3) := by decide +kernel
theorem dX1_wasAt_4 : decode YX1_wasAt.2.1 4 = .ok (.ifCond .eq 27, 3) := by decide +kernel
theorem dX1_wasAt_7 : decode YX1_wasAt.2.1 7 = .ok (.iload_n 2, 1) := by decide +kernel
theorem dX1_wasAt_8 : decode YX1_wasAt.2.1 8 = .ok (.ifCond .lt 23, 3) := by decide +kernel
theorem dX1_wasAt_11 : decode YX1_wasAt.2.1 11 = .ok (.iload_n 2, 1) := by decide +kernel
theorem dX1_wasAt_12 : decode YX1_wasAt.2.1 12 = .ok (.bipush 6, 2) := by decide +kernel
theorem dX1_wasAt_14 : decode YX1_wasAt.2.1 14 = .ok (.if_icmp .ge 17, 3) := by decide +kernel
theorem dX1_wasAt_17 : decode YX1_wasAt.2.1 17 = .ok (.aload_n 0, 1) := by decide +kernel
theorem dX1_wasAt_18 : decode YX1_wasAt.2.1 18 = .ok (.getfield 9, 3) := by decide +kernel
theorem dX1_wasAt_21 : decode YX1_wasAt.2.1 21 = .ok (.iload_n 1, 1) := by decide +kernel
theorem dX1_wasAt_22 : decode YX1_wasAt.2.1 22 = .ok (.bipush 6, 2) := by decide +kernel
theorem dX1_wasAt_24 : decode YX1_wasAt.2.1 24 = .ok (.imul, 1) := by decide +kernel
theorem dX1_wasAt_25 : decode YX1_wasAt.2.1 25 = .ok (.iload_n 2, 1) := by decide +kernel
theorem dX1_wasAt_26 : decode YX1_wasAt.2.1 26 = .ok (.iadd, 1) := by decide +kernel
theorem dX1_wasAt_27 : decode YX1_wasAt.2.1 27 = .ok (.iaload, 1) := by decide +kernel
theorem dX1_wasAt_28 : decode YX1_wasAt.2.1 28 = .ok (.goto 4, 3) := by decide +kernel
theorem dX1_wasAt_31 : decode YX1_wasAt.2.1 31 = .ok (.iconst (-1), 1) := by decide +kernel
theorem dX1_wasAt_32 : decode YX1_wasAt.2.1 32 = .ok (.ireturn, 1) := by decide +kernel
theorem dX1_whereIs_0 : decode YX1_whereIs.2.1 0 = .ok (.aload_n 0, 1) := by decide +kernel
theorem dX1_whereIs_1 : decode YX1_whereIs.2.1 1 = .ok (.iload_n 1, 1) := by decide +kernel
theorem dX1_whereIs_2 : decode YX1_whereIs.2.1 2 = .ok (.iconst 0, 1) := by decide +kernel
theorem dX1_whereIs_3 : decode YX1_whereIs.2.1 3 = .ok (.invokevirtual 62, 3) := by decide +kernel
theorem dX1_whereIs_6 : decode YX1_whereIs.2.1 6 = .ok (.ireturn, 1) := by decide +kernel
theorem dX7_besideOf_0 : decode YX7_besideOf.2.1 0 = .ok (.aload_n 0, 1) := by decide +kernel
theorem dX7_besideOf_1 : decode YX7_besideOf.2.1 1 = .ok (.iload_n 1, 1) := by decide +kernel
theorem dX7_besideOf_2 : decode YX7_besideOf.2.1 2 = .ok (.invokevirtual 35, 3) := by decide +kernel
theorem dX7_besideOf_5 : decode YX7_besideOf.2.1 5 = .ok (.ifCond .eq 12, 3) := by decide +kernel
theorem dX7_besideOf_8 : decode YX7_besideOf.2.1 8 = .ok (.aload_n 0, 1) := by decide +kernel
theorem dX7_besideOf_9 : decode YX7_besideOf.2.1 9 = .ok (.getfield 18, 3) := by decide +kernel
theorem dX7_besideOf_12 : decode YX7_besideOf.2.1 12 = .ok (.iload_n 1, 1) := by decide +kernel
theorem dX7_besideOf_13 : decode YX7_besideOf.2.1 13 = .ok (.iaload, 1) := by decide +kernel
theorem dX7_besideOf_14 : decode YX7_besideOf.2.1 14 = .ok (.goto 4, 3) := by decide +kernel
theorem dX7_besideOf_17 : decode YX7_besideOf.2.1 17 = .ok (.iconst 0, 1) := by decide +kernel
theorem dX7_besideOf_18 : decode YX7_besideOf.2.1 18 = .ok (.ireturn, 1) := by decide +kernel
theorem dX7_farFrom_0 : decode YX7_farFrom.2.1 0 = .ok (.aload_n 0, 1) := by decide +kernel
theorem dX7_farFrom_1 : decode YX7_farFrom.2.1 1 = .ok (.iload_n 1, 1) := by decide +kernel
theorem dX7_farFrom_2 : decode YX7_farFrom.2.1 2 = .ok (.invokevirtual 35, 3) := by decide +kernel
theorem dX7_farFrom_5 : decode YX7_farFrom.2.1 5 = .ok (.ifCond .eq 25, 3) := by decide +kernel
theorem dX7_farFrom_8 : decode YX7_farFrom.2.1 8 = .ok (.aload_n 0, 1) := by decide +kernel
theorem dX7_farFrom_9 : decode YX7_farFrom.2.1 9 = .ok (.iload_n 2, 1) := by decide +kernel
theorem dX7_farFrom_10 : decode YX7_farFrom.2.1 10 = .ok (.invokevirtual 35, 3) := by decide +kernel
theorem dX7_farFrom_13 : decode YX7_farFrom.2.1 13 = .ok (.ifCond .eq 17, 3) := by decide +kernel
theorem dX7_farFrom_16 : decode YX7_farFrom.2.1 16 = .ok (.aload_n 0, 1) := by decide +kernel
theorem dX7_farFrom_17 : decode YX7_farFrom.2.1 17 = .ok (.getfield 22, 3) := by decide +kernel
theorem dX7_farFrom_20 : decode YX7_farFrom.2.1 20 = .ok (.iload_n 1, 1) := by decide +kernel
theorem dX7_farFrom_21 : decode YX7_farFrom.2.1 21 = .ok (.bipush 8, 2) := by decide +kernel
theorem dX7_farFrom_23 : decode YX7_farFrom.2.1 23 = .ok (.imul, 1) := by decide +kernel
theorem dX7_farFrom_24 : decode YX7_farFrom.2.1 24 = .ok (.iload_n 2, 1) := by decide +kernel
theorem dX7_farFrom_25 : decode YX7_farFrom.2.1 25 = .ok (.iadd, 1) := by decide +kernel
theorem dX7_farFrom_26 : decode YX7_farFrom.2.1 26 = .ok (.iaload, 1) := by decide +kernel
theorem dX7_farFrom_27 : decode YX7_farFrom.2.1 27 = .ok (.goto 4, 3) := by decide +kernel
theorem dX7_farFrom_30 : decode YX7_farFrom.2.1 30 = .ok (.iconst (-1), 1) := by decide +kernel
theorem dX7_farFrom_31 : decode YX7_farFrom.2.1 31 = .ok (.ireturn, 1) := by decide +kernel
theorem dX7_hasCorner_0 : decode YX7_hasCorner.2.1 0 = .ok (.iload_n 1, 1) := by decide +kernel
theorem dX7_hasCorner_1 : decode YX7_hasCorner.2.1 1 = .ok (.ifCond .lt 21, 3) := by decide +kernel
theorem dX7_hasCorner_4 : decode YX7_hasCorner.2.1 4 = .ok (.iload_n 1, 1) := by decide +kernel
theorem dX7_hasCorner_5 : decode YX7_hasCorner.2.1 5 = .ok (.aload_n 0, 1) := by decide +kernel
theorem dX7_hasCorner_6 : decode YX7_hasCorner.2.1 6 = .ok (.getfield 25, 3) := by decide +kernel
theorem dX7_hasCorner_9 : decode YX7_hasCorner.2.1 9 = .ok (.if_icmp .ge 13, 3) := by decide +kernel
theorem dX7_hasCorner_12 : decode YX7_hasCorner.2.1 12 = .ok (.iload_n 1, 1) := by decide +kernel
theorem dX7_hasCorner_13 : decode YX7_hasCorner.2.1 13 = .ok (.bipush 8, 2) := by decide +kernel
theorem dX7_hasCorner_15 : decode YX7_hasCorner.2.1 15 = .ok (.if_icmp .ge 7, 3) := by decide +kernel
theorem dX7_hasCorner_18 : decode YX7_hasCorner.2.1 18 = .ok (.iconst 1, 1) := by decide +kernel
theorem dX7_hasCorner_19 : decode YX7_hasCorner.2.1 19 = .ok (.goto 4, 3) := by decide +kernel
theorem dX7_hasCorner_22 : decode YX7_hasCorner.2.1 22 = .ok (.iconst 0, 1) := by decide +kernel
theorem dX7_hasCorner_23 : decode YX7_hasCorner.2.1 23 = .ok (.ireturn, 1) := by decide +kernel
theorem dX7_stepTowards_0 : decode YX7_stepTowards.2.1 0 = .ok (.aload_n 0, 1) := by decide +kernel
theorem dX7_stepTowards_1 : decode YX7_stepTowards.2.1 1 = .ok (.iload_n 1, 1) := by decide +kernel
theorem dX7_stepTowards_2 : decode YX7_stepTowards.2.1 2 = .ok (.iload_n 2, 1) := by decide +kernel
theorem dX7_stepTowards_3 : decode YX7_stepTowards.2.1 3 = .ok (.invokevirtual 50, 3) := by decide +kernel
theorem dX7_stepTowards_6 : decode YX7_stepTowards.2.1 6 = .ok (.istore_n 3, 1) := by decide +kernel
theorem dX7_stepTowards_7 : decode YX7_stepTowards.2.1 7 = .ok (.iload_n 3, 1) := by decide +kernel
theorem dX7_stepTowards_8 : decode YX7_stepTowards.2.1 8 = .ok (.ifCond .le 48, 3) := by decide +kernel
theorem dX7_stepTowards_11 : decode YX7_stepTowards.2.1 11 = .ok (.iconst 0, 1) := by decide +kernel
theorem dX7_stepTowards_12 : decode YX7_stepTowards.2.1 12 = .ok (.istore 4, 2) := by decide +kernel
theorem dX7_stepTowards_14 : decode YX7_stepTowards.2.1 14 = .ok (.iload 4, 2) := by decide +kernel
theorem dX7_stepTowards_16 : decode YX7_stepTowards.2.1 16 = .ok (.bipush 8, 2) := by decide +kernel
theorem dX7_stepTowards_18 : decode YX7_stepTowards.2.1 18 = .ok (.if_icmp .ge 38, 3) := by decide +kernel
theorem dX7_stepTowards_21 : decode YX7_stepTowards.2.1 21 = .ok (.aload_n 0, 1) := by decide +kernel
theorem dX7_stepTowards_22 : decode YX7_stepTowards.2.1 22 = .ok (.iload_n 1, 1) := by decide +kernel
theorem dX7_stepTowards_23 : decode YX7_stepTowards.2.1 23 = .ok (.invokevirtual 42, 3) := by decide +kernel
theorem dX7_stepTowards_26 : decode YX7_stepTowards.2.1 26 = .ok (.iload 4, 2) := by decide +kernel
theorem dX7_stepTowards_28 : decode YX7_stepTowards.2.1 28 = .ok (.invokestatic 46, 3) := by decide +kernel
theorem dX7_stepTowards_31 : decode YX7_stepTowards.2.1 31 = .ok (.ifCond .eq 19, 3) := by decide +kernel
theorem dX7_stepTowards_34 : decode YX7_stepTowards.2.1 34 = .ok (.aload_n 0, 1) := by decide +kernel
theorem dX7_stepTowards_35 : decode YX7_stepTowards.2.1 35 = .ok (.iload 4, 2) := by decide +kernel
theorem dX7_stepTowards_37 : decode YX7_stepTowards.2.1 37 = .ok (.iload_n 2, 1) := by decide +kernel
theorem dX7_stepTowards_38 : decode YX7_stepTowards.2.1 38 = .ok (.invokevirtual 50, 3) := by decide +kernel
theorem dX7_stepTowards_41 : decode YX7_stepTowards.2.1 41 = .ok (.iload_n 3, 1) := by decide +kernel
theorem dX7_stepTowards_42 : decode YX7_stepTowards.2.1 42 = .ok (.iconst 1, 1) := by decide +kernel
theorem dX7_stepTowards_43 : decode YX7_stepTowards.2.1 43 = .ok (.isub, 1) := by decide +kernel
theorem dX7_stepTowards_44 : decode YX7_stepTowards.2.1 44 = .ok (.if_icmp .ne 6, 3) := by decide +kernel
theorem dX7_stepTowards_47 : decode YX7_stepTowards.2.1 47 = .ok (.iload 4, 2) := by decide +kernel
theorem dX7_stepTowards_49 : decode YX7_stepTowards.2.1 49 = .ok (.ireturn, 1) := by decide +kernel
theorem dX7_stepTowards_50 : decode YX7_stepTowards.2.1 50 = .ok (.iinc 4 1, 3) := by decide +kernel
theorem dX7_stepTowards_53 : decode YX7_stepTowards.2.1 53 = .ok (.goto (-39), 3) := by decide +kernel
theorem dX7_stepTowards_56 : decode YX7_stepTowards.2.1 56 = .ok (.iload_n 1, 1) := by decide +kernel
theorem dX7_stepTowards_57 : decode YX7_stepTowards.2.1 57 = .ok (.ireturn, 1) := by decide +kernel
