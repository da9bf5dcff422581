def YX11_book : zY := (⟨"ProperFollow", "book", "(I)I"⟩, prog_1_method_35_code, 3, (some .int))
def YX11_drawn : zY := (⟨"ProperFollow", "drawn", "(II)I"⟩, prog_1_method_33_code, 4, (some .int))
def YX11_drop : zY := (⟨"ProperFollow", "drop", "(I)I"⟩, prog_1_method_11_code, 2, (some .int))
def YX11_hire : zY := (⟨"ProperFollow", "hire", "(III)I"⟩, prog_1_method_13_code, 4, (some .int))
def YX11_hires : zY := (⟨"ProperFollow", "hires", "()I"⟩, prog_1_method_27_code, 1, (some .int))
def YX11_image : zY := (⟨"ProperFollow", "image", "(I)Z"⟩, prog_1_method_39_code, 3, (some .boolean))
def YX11_imageIn : zY := (⟨"ProperFollow", "imageIn", "(I)LProperFollow$Kept;"⟩, prog_1_method_42_code, 2, (some (.object "ProperFollow$Kept")))
def YX11_leave : zY := (⟨"ProperFollow", "leave", "(I)I"⟩, prog_1_method_12_code, 2, (some .int))
def YX11_minutes : zY := (⟨"ProperFollow", "minutes", "(I)I"⟩, prog_1_method_14_code, 3, (some .int))
def YX11_restore : zY := (⟨"ProperFollow", "restore", "(I)Z"⟩, prog_1_method_40_code, 3, (some .boolean))
def YX11_send : zY := (⟨"ProperFollow", "send", "(II)I"⟩, prog_1_method_10_code, 3, (some .int))
def YX11_settle : zY := (⟨"ProperFollow", "settle", "(I)V"⟩, prog_1_method_44_code, 2, none)
def YX11_settleIfDone : zY := (⟨"ProperFollow", "settleIfDone", "(I)I"⟩, prog_1_method_43_code, 2, (some .int))
def YX11_undo : zY := (⟨"ProperFollow", "undo", "()I"⟩, prog_1_method_15_code, 1, (some .int))
def YX3_add : zY := (⟨"ProperFollow$History", "add", "(LProperFollow$Day;)V"⟩, prog_5_method_5_code, 3, none)
def YX3_dayIn : zY := (⟨"ProperFollow$History", "dayIn", "(I)LProperFollow$Day;"⟩, prog_5_method_4_code, 2, (some (.object "ProperFollow$Day")))
def YX3_takeBack : zY := (⟨"ProperFollow$History", "takeBack", "(LProperFollow$Day;)V"⟩, prog_5_method_6_code, 3, none)
def YX4_giveBack : zY := (⟨"ProperFollow$Kept", "giveBack", "(LProperFollow$Plan;LProperFollow$Day;LProperFollow$Sentence;)V"⟩, prog_6_method_4_code, 4, none)
def YX4_isFull : zY := (⟨"ProperFollow$Kept", "isFull", "()Z"⟩, prog_6_method_2_code, 1, (some .boolean))
def YX4_keep : zY := (⟨"ProperFollow$Kept", "keep", "(LProperFollow$Plan;LProperFollow$Day;LProperFollow$Sentence;)V"⟩, prog_6_method_3_code, 4, none)
def YX6_choose : zY := (⟨"ProperFollow$Pairing", "choose", "(LProperFollow$Plan;LProperFollow$Day;)V"⟩, prog_8_method_5_code, 5, none)
def YX6_pairs : zY := (⟨"ProperFollow$Pairing", "pairs", "()I"⟩, prog_8_method_2_code, 1, (some .int))
def YX6_tryFrom : zY := (⟨"ProperFollow$Pairing", "tryFrom", "(LProperFollow$Plan;LProperFollow$Day;IIII)V"⟩, prog_8_method_6_code, 9, none)
theorem sh48 : zSH[48]? = some (4, [49, 59, 69, 79, 89, 99, 109, 119]) := by decide +kernel
theorem sh49 : zSH[49]? = some (1 + 10, [52, 53, 54, 55, 56, 57, 58, 59, 60, 0, 0]) := by decide +kernel
theorem sh50 : zSH[50]? = some (0, [36]) := by decide +kernel
theorem sh51 : zSH[51]? = some (0, [6]) := by decide +kernel
theorem sh52 : zSH[52]? = some (0, [6]) := by decide +kernel
theorem sh53 : zSH[53]? = some (0, [6]) := by decide +kernel
theorem sh54 : zSH[54]? = some (0, [48]) := by decide +kernel
theorem sh55 : zSH[55]? = some (0, [6]) := by decide +kernel
theorem sh56 : zSH[56]? = some (0, [8]) := by decide +kernel
theorem sh57 : zSH[57]? = some (0, [8]) := by decide +kernel
theorem sh59 : zSH[59]? = some (1 + 10, [62, 63, 64, 65, 66, 67, 68, 69, 70, 0, 0]) := by decide +kernel
theorem sh60 : zSH[60]? = some (0, [36]) := by decide +kernel
theorem sh61 : zSH[61]? = some (0, [6]) := by decide +kernel
theorem sh62 : zSH[62]? = some (0, [6]) := by decide +kernel
theorem sh63 : zSH[63]? = some (0, [6]) := by decide +kernel
theorem sh64 : zSH[64]? = some (0, [48]) := by decide +kernel
theorem sh65 : zSH[65]? = some (0, [6]) := by decide +kernel
theorem sh66 : zSH[66]? = some (0, [8]) := by decide +kernel
theorem sh67 : zSH[67]? = some (0, [8]) := by decide +kernel
theorem sh69 : zSH[69]? = some (1 + 10, [72, 73, 74, 75, 76, 77, 78, 79, 80, 0, 0]) := by decide +kernel
theorem sh70 : zSH[70]? = some (0, [36]) := by decide +kernel
theorem sh71 : zSH[71]? = some (0, [6]) := by decide +kernel
theorem sh72 : zSH[72]? = some (0, [6]) := by decide +kernel
theorem sh73 : zSH[73]? = some (0, [6]) := by decide +kernel
theorem sh74 : zSH[74]? = some (0, [48]) := by decide +kernel
theorem sh75 : zSH[75]? = some (0, [6]) := by decide +kernel
theorem sh76 : zSH[76]? = some (0, [8]) := by decide +kernel
theorem sh77 : zSH[77]? = some (0, [8]) := by decide +kernel
theorem sh79 : zSH[79]? = some (1 + 10, [82, 83, 84, 85, 86, 87, 88, 89, 90, 0, 0]) := by decide +kernel
theorem sh80 : zSH[80]? = some (0, [36]) := by decide +kernel
theorem sh81 : zSH[81]? = some (0, [6]) := by decide +kernel
theorem sh82 : zSH[82]? = some (0, [6]) := by decide +kernel
theorem sh83 : zSH[83]? = some (0, [6]) := by decide +kernel
theorem sh84 : zSH[84]? = some (0, [48]) := by decide +kernel
theorem sh85 : zSH[85]? = some (0, [6]) := by decide +kernel
theorem sh86 : zSH[86]? = some (0, [8]) := by decide +kernel
theorem sh87 : zSH[87]? = some (0, [8]) := by decide +kernel
theorem sh89 : zSH[89]? = some (1 + 10, [92, 93, 94, 95, 96, 97, 98, 99, 100, 0, 0]) := by decide +kernel
theorem sh90 : zSH[90]? = some (0, [36]) := by decide +kernel
theorem sh91 : zSH[91]? = some (0, [6]) := by decide +kernel
theorem sh92 : zSH[92]? = some (0, [6]) := by decide +kernel
theorem sh93 : zSH[93]? = some (0, [6]) := by decide +kernel
theorem sh94 : zSH[94]? = some (0, [48]) := by decide +kernel
theorem sh95 : zSH[95]? = some (0, [6]) := by decide +kernel
theorem sh96 : zSH[96]? = some (0, [8]) := by decide +kernel
theorem sh97 : zSH[97]? = some (0, [8]) := by decide +kernel
theorem sh99 : zSH[99]? = some (1 + 10, [102, 103, 104, 105, 106, 107, 108, 109, 110, 0, 0]) := by decide +kernel
theorem sh100 : zSH[100]? = some (0, [36]) := by decide +kernel
theorem sh101 : zSH[101]? = some (0, [6]) := by decide +kernel
theorem sh102 : zSH[102]? = some (0, [6]) := by decide +kernel
theorem sh103 : zSH[103]? = some (0, [6]) := by decide +kernel
theorem sh104 : zSH[104]? = some (0, [48]) := by decide +kernel
theorem sh105 : zSH[105]? = some (0, [6]) := by decide +kernel
theorem sh106 : zSH[106]? = some (0, [8]) := by decide +kernel
theorem sh107 : zSH[107]? = some (0, [8]) := by decide +kernel
theorem sh109 : zSH[109]? = some (1 + 10, [112, 113, 114, 115, 116, 117, 118, 119, 120, 0, 0]) := by decide +kernel
theorem sh110 : zSH[110]? = some (0, [36]) := by decide +kernel
theorem sh111 : zSH[111]? = some (0, [6]) := by decide +kernel
theorem sh112 : zSH[112]? = some (0, [6]) := by decide +kernel
theorem sh113 : zSH[113]? = some (0, [6]) := by decide +kernel
theorem sh114 : zSH[114]? = some (0, [48]) := by decide +kernel
theorem sh115 : zSH[115]? = some (0, [6]) := by decide +kernel
theorem sh116 : zSH[116]? = some (0, [8]) := by decide +kernel
theorem sh117 : zSH[117]? = some (0, [8]) := by decide +kernel
theorem sh119 : zSH[119]? = some (1 + 10, [122, 123, 124, 125, 126, 127, 128, 129, 130, 0, 0]) := by decide +kernel
theorem sh120 : zSH[120]? = some (0, [36]) := by decide +kernel
theorem sh121 : zSH[121]? = some (0, [6]) := by decide +kernel
theorem sh122 : zSH[122]? = some (0, [6]) := by decide +kernel
theorem sh123 : zSH[123]? = some (0, [6]) := by decide +kernel
theorem sh124 : zSH[124]? = some (0, [48]) := by decide +kernel
theorem sh125 : zSH[125]? = some (0, [6]) := by decide +kernel
theorem sh126 : zSH[126]? = some (0, [8]) := by decide +kernel
theorem sh127 : zSH[127]? = some (0, [8]) := by decide +kernel
theorem sh129 : zSH[129]? = some (5, [130, 152]) := by decide +kernel
theorem sh130 : zSH[130]? = some (4 + 10, [133, 138, 148, 0]) := by decide +kernel
theorem sh131 : zSH[131]? = some (7 + 10, [134, 135, 136, 137, 0, 0, 0]) := by decide +kernel
theorem sh132 : zSH[132]? = some (1, [8]) := by decide +kernel
theorem sh133 : zSH[133]? = some (1, [6]) := by decide +kernel
theorem sh134 : zSH[134]? = some (0, [8]) := by decide +kernel
theorem sh135 : zSH[135]? = some (0, [64]) := by decide +kernel
theorem sh136 : zSH[136]? = some (1 + 10, [139, 140, 141, 142, 143, 144, 145, 146, 147, 0, 0]) := by decide +kernel
theorem sh137 : zSH[137]? = some (0, [36]) := by decide +kernel
theorem sh138 : zSH[138]? = some (0, [6]) := by decide +kernel
theorem sh139 : zSH[139]? = some (0, [6]) := by decide +kernel
theorem sh140 : zSH[140]? = some (0, [6]) := by decide +kernel
theorem sh141 : zSH[141]? = some (0, [48]) := by decide +kernel
theorem sh142 : zSH[142]? = some (0, [6]) := by decide +kernel
theorem sh143 : zSH[143]? = some (0, [8]) := by decide +kernel
theorem sh144 : zSH[144]? = some (0, [8]) := by decide +kernel
theorem sh146 : zSH[146]? = some (9 + 10, [149, 150, 151, 152, 153, 0, 0, 0, 0, 0, 0]) := by decide +kernel
theorem sh147 : zSH[147]? = some (0, [40]) := by decide +kernel
theorem sh148 : zSH[148]? = some (0, [40]) := by decide +kernel
theorem sh149 : zSH[149]? = some (0, [40]) := by decide +kernel
theorem sh152 : zSH[152]? = some (4 + 10, [155, 160, 170, 0]) := by decide +kernel
theorem sh153 : zSH[153]? = some (7 + 10, [156, 157, 158, 159, 0, 0, 0]) := by decide +kernel
theorem sh154 : zSH[154]? = some (1, [8]) := by decide +kernel
theorem sh155 : zSH[155]? = some (1, [6]) := by decide +kernel
theorem sh156 : zSH[156]? = some (0, [8]) := by decide +kernel
theorem sh157 : zSH[157]? = some (0, [64]) := by decide +kernel
theorem sh158 : zSH[158]? = some (1 + 10, [161, 162, 163, 164, 165, 166, 167, 168, 169, 0, 0]) := by decide +kernel
theorem sh159 : zSH[159]? = some (0, [36]) := by decide +kernel
theorem sh160 : zSH[160]? = some (0, [6]) := by decide +kernel
theorem sh161 : zSH[161]? = some (0, [6]) := by decide +kernel
theorem sh162 : zSH[162]? = some (0, [6]) := by decide +kernel
theorem sh163 : zSH[163]? = some (0, [48]) := by decide +kernel
theorem sh164 : zSH[164]? = some (0, [6]) := by decide +kernel
theorem sh165 : zSH[165]? = some (0, [8]) := by decide +kernel
theorem sh166 : zSH[166]? = some (0, [8]) := by decide +kernel
theorem sh168 : zSH[168]? = some (9 + 10, [171, 172, 173, 174, 175, 0, 0, 0, 0, 0, 0]) := by decide +kernel
theorem sh169 : zSH[169]? = some (0, [40]) := by decide +kernel
theorem sh170 : zSH[170]? = some (0, [40]) := by decide +kernel
theorem sh171 : zSH[171]? = some (0, [40]) := by decide +kernel
theorem fwX11_64 : Cond.fieldLink "ProperFollow" 64 (kT11 9).1 (kT11 9).2.1 (kT11 9).2.2.1 ∈ zWS := zWS_in (List.mem_of_getElem? (i := 499) (by decide +kernel)) (by decide +kernel)
theorem flX11_64 : zfld "ProperFollow" 64 11 9 := ⟨kR11, kT11, 20, rfl, ki11, by decide, fwX11_64⟩
theorem fwX3_11 : Cond.fieldLink "ProperFollow$History" 11 (kT3 0).1 (kT3 0).2.1 (kT3 0).2.2.1 ∈ zWS := zWS_in (List.mem_of_getElem? (i := 374) (by decide +kernel)) (by decide +kernel)
theorem flX3_11 : zfld "ProperFollow$History" 11 3 0 := ⟨kR3, kT3, 3, rfl, ki3, by decide, fwX3_11⟩
theorem fwX3_20 : Cond.fieldLink "ProperFollow$History" 20 (kT3 1).1 (kT3 1).2.1 (kT3 1).2.2.1 ∈ zWS := zWS_in (List.mem_of_getElem? (i := 375) (by decide +kernel)) (by decide +kernel)
theorem flX3_20 : zfld "ProperFollow$History" 20 3 1 := ⟨kR3, kT3, 3, rfl, ki3, by decide, fwX3_20⟩
theorem fpX3_20 : zfldP "ProperFollow$History" 20 3 1 .int := ⟨kR3, kT3, 3, kt3, rfl, ki3, by decide, fwX3_20, kk3, kn3, by decide +kernel, by decide +kernel⟩
theorem fwX4_10 : Cond.fieldLink "ProperFollow$Kept" 10 (kT4 0).1 (kT4 0).2.1 (kT4 0).2.2.1 ∈ zWS := zWS_in (List.mem_of_getElem? (i := 477) (by decide +kernel)) (by decide +kernel)
theorem flX4_10 : zfld "ProperFollow$Kept" 10 4 0 := ⟨kR4, kT4, 4, rfl, ki4, by decide, fwX4_10⟩
theorem fwX4_19 : Cond.fieldLink "ProperFollow$Kept" 19 (kT4 1).1 (kT4 1).2.1 (kT4 1).2.2.1 ∈ zWS := zWS_in (List.mem_of_getElem? (i := 478) (by decide +kernel)) (by decide +kernel)
theorem flX4_19 : zfld "ProperFollow$Kept" 19 4 1 := ⟨kR4, kT4, 4, rfl, ki4, by decide, fwX4_19⟩
theorem fwX4_26 : Cond.fieldLink "ProperFollow$Kept" 26 (kT4 2).1 (kT4 2).2.1 (kT4 2).2.2.1 ∈ zWS := zWS_in (List.mem_of_getElem? (i := 479) (by decide +kernel)) (by decide +kernel)
theorem flX4_26 : zfld "ProperFollow$Kept" 26 4 2 := ⟨kR4, kT4, 4, rfl, ki4, by decide, fwX4_26⟩
theorem fwX4_30 : Cond.fieldLink "ProperFollow$Kept" 30 (kT4 3).1 (kT4 3).2.1 (kT4 3).2.2.1 ∈ zWS := zWS_in (List.mem_of_getElem? (i := 480) (by decide +kernel)) (by decide +kernel)
theorem flX4_30 : zfld "ProperFollow$Kept" 30 4 3 := ⟨kR4, kT4, 4, rfl, ki4, by decide, fwX4_30⟩
theorem fpX4_30 : zfldP "ProperFollow$Kept" 30 4 3 .boolean := ⟨kR4, kT4, 4, kt4, rfl, ki4, by decide, fwX4_30, kk4, kn4, by decide +kernel, by decide +kernel⟩
theorem wi_X4 : Cond.initialized "ProperFollow$Kept" ∈ zWS := zWS_in (List.mem_of_getElem? (i := 131) (by decide +kernel)) (by decide +kernel)
theorem lkX0_goodLines : zlkV YX0_goodLines 0 := ⟨⟨wi_X0, zWS_in (List.mem_of_getElem? (i := 1239) (by decide +kernel)) (by decide +kernel), by decide, by decide, by decide +kernel, by decide⟩, zWS_in (List.mem_of_getElem? (i := 1237) (by decide +kernel)) (by decide +kernel), zWS_in (List.mem_of_getElem? (i := 1238) (by decide +kernel)) (by decide +kernel)⟩
theorem lkX0_judge : zlkV YX0_judge 2 := ⟨⟨wi_X0, zWS_in (List.mem_of_getElem? (i := 1220) (by decide +kernel)) (by decide +kernel), by decide, by decide, by decide +kernel, by decide⟩, zWS_in (List.mem_of_getElem? (i := 1218) (by decide +kernel)) (by decide +kernel), zWS_in (List.mem_of_getElem? (i := 1219) (by decide +kernel)) (by decide +kernel)⟩
theorem lkX0_readFrom : zlkV YX0_readFrom 2 := ⟨⟨wi_X0, zWS_in (List.mem_of_getElem? (i := 1199) (by decide +kernel)) (by decide +kernel), by decide, by decide, by decide +kernel, by decide⟩, zWS_in (List.mem_of_getElem? (i := 1197) (by decide +kernel)) (by decide +kernel), zWS_in (List.mem_of_getElem? (i := 1198) (by decide +kernel)) (by decide +kernel)⟩
theorem lkX11_imageIn : zlkV YX11_imageIn 1 := ⟨⟨wi_X11, zWS_in (List.mem_of_getElem? (i := 1359) (by decide +kernel)) (by decide +kernel), by decide, by decide, by decide +kernel, by decide⟩, zWS_in (List.mem_of_getElem? (i := 1358) (by decide +kernel)) (by decide +kernel), zWS_in (List.mem_of_getElem? (i := 43) (by decide +kernel)) (by decide +kernel)⟩
theorem lkX11_settle : zlkV YX11_settle 1 := ⟨⟨wi_X11, zWS_in (List.mem_of_getElem? (i := 889) (by decide +kernel)) (by decide +kernel), by decide, by decide, by decide +kernel, by decide⟩, zWS_in (List.mem_of_getElem? (i := 888) (by decide +kernel)) (by decide +kernel), zWS_in (List.mem_of_getElem? (i := 13) (by decide +kernel)) (by decide +kernel)⟩
theorem lkX11_settleIfDone : zlkV YX11_settleIfDone 1 := ⟨⟨wi_X11, zWS_in (List.mem_of_getElem? (i := 885) (by decide +kernel)) (by decide +kernel), by decide, by decide, by decide +kernel, by decide⟩, zWS_in (List.mem_of_getElem? (i := 884) (by decide +kernel)) (by decide +kernel), zWS_in (List.mem_of_getElem? (i := 12) (by decide +kernel)) (by decide +kernel)⟩
theorem lkX3_add : zlkV YX3_add 1 := ⟨⟨wi_X3, zWS_in (List.mem_of_getElem? (i := 893) (by decide +kernel)) (by decide +kernel), by decide, by decide, by decide +kernel, by decide⟩, zWS_in (List.mem_of_getElem? (i := 891) (by decide +kernel)) (by decide +kernel), zWS_in (List.mem_of_getElem? (i := 892) (by decide +kernel)) (by decide +kernel)⟩
theorem lkX3_dayIn : zlkV YX3_dayIn 1 := ⟨⟨wi_X3, zWS_in (List.mem_of_getElem? (i := 897) (by decide +kernel)) (by decide +kernel), by decide, by decide, by decide +kernel, by decide⟩, zWS_in (List.mem_of_getElem? (i := 896) (by decide +kernel)) (by decide +kernel), zWS_in (List.mem_of_getElem? (i := 14) (by decide +kernel)) (by decide +kernel)⟩
theorem lkX3_length : zlkV YX3_length 0 := ⟨⟨wi_X3, zWS_in (List.mem_of_getElem? (i := 971) (by decide +kernel)) (by decide +kernel), by decide, by decide, by decide +kernel, by decide⟩, zWS_in (List.mem_of_getElem? (i := 969) (by decide +kernel)) (by decide +kernel), zWS_in (List.mem_of_getElem? (i := 970) (by decide +kernel)) (by decide +kernel)⟩
theorem lkX3_takeBack : zlkV YX3_takeBack 1 := ⟨⟨wi_X3, zWS_in (List.mem_of_getElem? (i := 975) (by decide +kernel)) (by decide +kernel), by decide, by decide, by decide +kernel, by decide⟩, zWS_in (List.mem_of_getElem? (i := 973) (by decide +kernel)) (by decide +kernel), zWS_in (List.mem_of_getElem? (i := 974) (by decide +kernel)) (by decide +kernel)⟩
theorem lkX4_giveBack : zlkV YX4_giveBack 3 := ⟨⟨wi_X4, zWS_in (List.mem_of_getElem? (i := 1378) (by decide +kernel)) (by decide +kernel), by decide, by decide, by decide +kernel, by decide⟩, zWS_in (List.mem_of_getElem? (i := 1376) (by decide +kernel)) (by decide +kernel), zWS_in (List.mem_of_getElem? (i := 1377) (by decide +kernel)) (by decide +kernel)⟩
theorem lkX4_isFull : zlkV YX4_isFull 0 := ⟨⟨wi_X4, zWS_in (List.mem_of_getElem? (i := 1374) (by decide +kernel)) (by decide +kernel), by decide, by decide, by decide +kernel, by decide⟩, zWS_in (List.mem_of_getElem? (i := 1372) (by decide +kernel)) (by decide +kernel), zWS_in (List.mem_of_getElem? (i := 1373) (by decide +kernel)) (by decide +kernel)⟩
theorem lkX4_keep : zlkV YX4_keep 3 := ⟨⟨wi_X4, zWS_in (List.mem_of_getElem? (i := 1363) (by decide +kernel)) (by decide +kernel), by decide, by decide, by decide +kernel, by decide⟩, zWS_in (List.mem_of_getElem? (i := 1361) (by decide +kernel)) (by decide +kernel), zWS_in (List.mem_of_getElem? (i := 1362) (by decide +kernel)) (by decide +kernel)⟩
theorem lkX6_choose : zlkV YX6_choose 2 := ⟨⟨wi_X6, zWS_in (List.mem_of_getElem? (i := 1061) (by decide +kernel)) (by decide +kernel), by decide, by decide, by decide +kernel, by decide⟩, zWS_in (List.mem_of_getElem? (i := 1059) (by decide +kernel)) (by decide +kernel), zWS_in (List.mem_of_getElem? (i := 1060) (by decide +kernel)) (by decide +kernel)⟩
theorem lkX6_keepIfBetter : zlkV YX6_keepIfBetter 2 := ⟨⟨wi_X6, zWS_in (List.mem_of_getElem? (i := 1074) (by decide +kernel)) (by decide +kernel), by decide, by decide, by decide +kernel, by decide⟩, zWS_in (List.mem_of_getElem? (i := 1073) (by decide +kernel)) (by decide +kernel), zWS_in (List.mem_of_getElem? (i := 24) (by decide +kernel)) (by decide +kernel)⟩
theorem lkX6_pairs : zlkV YX6_pairs 0 := ⟨⟨wi_X6, zWS_in (List.mem_of_getElem? (i := 1087) (by decide +kernel)) (by decide +kernel), by decide, by decide, by decide +kernel, by decide⟩, zWS_in (List.mem_of_getElem? (i := 1085) (by decide +kernel)) (by decide +kernel), zWS_in (List.mem_of_getElem? (i := 1086) (by decide +kernel)) (by decide +kernel)⟩
theorem lkX6_tryFrom : zlkV YX6_tryFrom 6 := ⟨⟨wi_X6, zWS_in (List.mem_of_getElem? (i := 1070) (by decide +kernel)) (by decide +kernel), by decide, by decide, by decide +kernel, by decide⟩, zWS_in (List.mem_of_getElem? (i := 1069) (by decide +kernel)) (by decide +kernel), zWS_in (List.mem_of_getElem? (i := 23) (by decide +kernel)) (by decide +kernel)⟩
theorem mlX11_233 : Cond.methodLink "ProperFollow" 233 ⟨"ProperFollow$Day", "goesTo", "(LProperFollow$Plan;II)I"⟩ ∈ zWS := zWS_in (List.mem_of_getElem? (i := 881) (by decide +kernel)) (by decide +kernel)
theorem mlX11_237 : Cond.methodLink "ProperFollow" 237 ⟨"ProperFollow", "settleIfDone", "(I)I"⟩ ∈ zWS := zWS_in (List.mem_of_getElem? (i := 882) (by decide +kernel)) (by decide +kernel)
theorem mlX11_240 : Cond.methodLink "ProperFollow" 240 ⟨"ProperFollow$Day", "dropsBun", "(I)I"⟩ ∈ zWS := zWS_in (List.mem_of_getElem? (i := 904) (by decide +kernel)) (by decide +kernel)
theorem mlX11_243 : Cond.methodLink "ProperFollow" 243 ⟨"ProperFollow$Day", "leavesOff", "(I)I"⟩ ∈ zWS := zWS_in (List.mem_of_getElem? (i := 916) (by decide +kernel)) (by decide +kernel)
theorem mlX11_246 : Cond.methodLink "ProperFollow" 246 ⟨"ProperFollow$Day", "takesOn", "(III)I"⟩ ∈ zWS := zWS_in (List.mem_of_getElem? (i := 924) (by decide +kernel)) (by decide +kernel)
theorem mlX11_250 : Cond.methodLink "ProperFollow" 250 ⟨"ProperFollow$Day", "minutesLeft", "()I"⟩ ∈ zWS := zWS_in (List.mem_of_getElem? (i := 929) (by decide +kernel)) (by decide +kernel)
theorem mlX11_253 : Cond.methodLink "ProperFollow" 253 Lib.Math.min.name ∈ zWS := zWS_in (List.mem_of_getElem? (i := 933) (by decide +kernel)) (by decide +kernel)
theorem mlX11_262 : Cond.methodLink "ProperFollow" 262 ⟨"ProperFollow", "settle", "(I)V"⟩ ∈ zWS := zWS_in (List.mem_of_getElem? (i := 886) (by decide +kernel)) (by decide +kernel)
theorem mlX11_265 : Cond.methodLink "ProperFollow" 265 ⟨"ProperFollow$History", "length", "()I"⟩ ∈ zWS := zWS_in (List.mem_of_getElem? (i := 968) (by decide +kernel)) (by decide +kernel)
theorem mlX11_266 : Cond.methodLink "ProperFollow" 266 ⟨"ProperFollow$History", "takeBack", "(LProperFollow$Day;)V"⟩ ∈ zWS := zWS_in (List.mem_of_getElem? (i := 972) (by decide +kernel)) (by decide +kernel)
theorem mlX11_295 : Cond.methodLink "ProperFollow" 295 ⟨"ProperFollow$Pairing", "choose", "(LProperFollow$Plan;LProperFollow$Day;)V"⟩ ∈ zWS := zWS_in (List.mem_of_getElem? (i := 1058) (by decide +kernel)) (by decide +kernel)
theorem mlX11_299 : Cond.methodLink "ProperFollow" 299 ⟨"ProperFollow$Pairing", "pairs", "()I"⟩ ∈ zWS := zWS_in (List.mem_of_getElem? (i := 1084) (by decide +kernel)) (by decide +kernel)
theorem mlX11_349 : Cond.methodLink "ProperFollow" 349 ⟨"ProperFollow$Book", "readFrom", "(LProperFollow$Reader;LProperFollow$Plan;)V"⟩ ∈ zWS := zWS_in (List.mem_of_getElem? (i := 1196) (by decide +kernel)) (by decide +kernel)
theorem mlX11_352 : Cond.methodLink "ProperFollow" 352 ⟨"ProperFollow$Book", "judge", "(LProperFollow$Plan;LProperFollow$Day;)I"⟩ ∈ zWS := zWS_in (List.mem_of_getElem? (i := 1217) (by decide +kernel)) (by decide +kernel)
theorem mlX11_356 : Cond.methodLink "ProperFollow" 356 ⟨"ProperFollow$Book", "goodLines", "()I"⟩ ∈ zWS := zWS_in (List.mem_of_getElem? (i := 1236) (by decide +kernel)) (by decide +kernel)
theorem mlX11_379 : Cond.methodLink "ProperFollow" 379 ⟨"ProperFollow", "imageIn", "(I)LProperFollow$Kept;"⟩ ∈ zWS := zWS_in (List.mem_of_getElem? (i := 1356) (by decide +kernel)) (by decide +kernel)
theorem mlX11_383 : Cond.methodLink "ProperFollow" 383 ⟨"ProperFollow$Kept", "keep", "(LProperFollow$Plan;LProperFollow$Day;LProperFollow$Sentence;)V"⟩ ∈ zWS := zWS_in (List.mem_of_getElem? (i := 1360) (by decide +kernel)) (by decide +kernel)
theorem mlX11_387 : Cond.methodLink "ProperFollow" 387 ⟨"ProperFollow$Kept", "isFull", "()Z"⟩ ∈ zWS := zWS_in (List.mem_of_getElem? (i := 1371) (by decide +kernel)) (by decide +kernel)
theorem mlX11_390 : Cond.methodLink "ProperFollow" 390 ⟨"ProperFollow$Kept", "giveBack", "(LProperFollow$Plan;LProperFollow$Day;LProperFollow$Sentence;)V"⟩ ∈ zWS := zWS_in (List.mem_of_getElem? (i := 1375) (by decide +kernel)) (by decide +kernel)
theorem mlX11_399 : Cond.methodLink "ProperFollow" 399 ⟨"ProperFollow$History", "add", "(LProperFollow$Day;)V"⟩ ∈ zWS := zWS_in (List.mem_of_getElem? (i := 890) (by decide +kernel)) (by decide +kernel)
theorem mlX3_23 : Cond.methodLink "ProperFollow$History" 23 ⟨"ProperFollow$History", "dayIn", "(I)LProperFollow$Day;"⟩ ∈ zWS := zWS_in (List.mem_of_getElem? (i := 894) (by decide +kernel)) (by decide +kernel)
theorem mlX3_27 : Cond.methodLink "ProperFollow$History" 27 ⟨"ProperFollow$Day", "copyFrom", "(LProperFollow$Day;)V"⟩ ∈ zWS := zWS_in (List.mem_of_getElem? (i := 898) (by decide +kernel)) (by decide +kernel)
theorem mlX3_31 : Cond.methodLink "ProperFollow$History" 31 Lib.Math.min.name ∈ zWS := zWS_in (List.mem_of_getElem? (i := 899) (by decide +kernel)) (by decide +kernel)
theorem mlX3_37 : Cond.methodLink "ProperFollow$History" 37 Lib.Math.max.name ∈ zWS := zWS_in (List.mem_of_getElem? (i := 976) (by decide +kernel)) (by decide +kernel)
theorem mlX4_34 : Cond.methodLink "ProperFollow$Kept" 34 ⟨"ProperFollow$Plan", "copyFrom", "(LProperFollow$Plan;)V"⟩ ∈ zWS := zWS_in (List.mem_of_getElem? (i := 1364) (by decide +kernel)) (by decide +kernel)
theorem mlX4_38 : Cond.methodLink "ProperFollow$Kept" 38 ⟨"ProperFollow$Day", "copyFrom", "(LProperFollow$Day;)V"⟩ ∈ zWS := zWS_in (List.mem_of_getElem? (i := 1365) (by decide +kernel)) (by decide +kernel)
theorem mlX4_41 : Cond.methodLink "ProperFollow$Kept" 41 ⟨"ProperFollow$Sentence", "copyFrom", "(LProperFollow$Sentence;)V"⟩ ∈ zWS := zWS_in (List.mem_of_getElem? (i := 1366) (by decide +kernel)) (by decide +kernel)
theorem mlX6_31 : Cond.methodLink "ProperFollow$Pairing" 31 ⟨"ProperFollow$Plan", "persons", "()I"⟩ ∈ zWS := zWS_in (List.mem_of_getElem? (i := 1062) (by decide +kernel)) (by decide +kernel)
theorem mlX6_37 : Cond.methodLink "ProperFollow$Pairing" 37 ⟨"ProperFollow$Day", "isIdle", "(I)Z"⟩ ∈ zWS := zWS_in (List.mem_of_getElem? (i := 1063) (by decide +kernel)) (by decide +kernel)
theorem mlX6_43 : Cond.methodLink "ProperFollow$Pairing" 43 ⟨"ProperFollow$Pairing", "tryFrom", "(LProperFollow$Plan;LProperFollow$Day;IIII)V"⟩ ∈ zWS := zWS_in (List.mem_of_getElem? (i := 1067) (by decide +kernel)) (by decide +kernel)
theorem mlX6_47 : Cond.methodLink "ProperFollow$Pairing" 47 ⟨"ProperFollow$Pairing", "keepIfBetter", "(II)V"⟩ ∈ zWS := zWS_in (List.mem_of_getElem? (i := 1071) (by decide +kernel)) (by decide +kernel)
theorem mlX6_51 : Cond.methodLink "ProperFollow$Pairing" 51 ⟨"ProperFollow$Day", "wayLeft", "(I)I"⟩ ∈ zWS := zWS_in (List.mem_of_getElem? (i := 1076) (by decide +kernel)) (by decide +kernel)
theorem mlX6_55 : Cond.methodLink "ProperFollow$Pairing" 55 ⟨"ProperFollow$Day", "followersOf", "(I)I"⟩ ∈ zWS := zWS_in (List.mem_of_getElem? (i := 1077) (by decide +kernel)) (by decide +kernel)
theorem mlX6_62 : Cond.methodLink "ProperFollow$Pairing" 62 ⟨"ProperFollow$Day", "whereIs", "(I)I"⟩ ∈ zWS := zWS_in (List.mem_of_getElem? (i := 1082) (by decide +kernel)) (by decide +kernel)
theorem mlX6_65 : Cond.methodLink "ProperFollow$Pairing" 65 ⟨"ProperFollow$Plan", "farFrom", "(II)I"⟩ ∈ zWS := zWS_in (List.mem_of_getElem? (i := 1083) (by decide +kernel)) (by decide +kernel)
theorem nlX6_58 : ("ProperFollow$Pairing", 58, (⟨"ProperFollow", "hasBit", "(II)Z"⟩ : MethodName), "ProperFollow") ∈ zNW := List.mem_of_getElem? (i := 10) (by decide +kernel)
theorem dX11_book_0 : decode YX11_book.2.1 0 = .ok (.iload_n 1, 1) := by decide +kernel
theorem dX11_book_1 : decode YX11_book.2.1 1 = .ok (.ifCond .lt 8, 3) := by decide +kernel
theorem dX11_book_4 : decode YX11_book.2.1 4 = .ok (.iload_n 1, 1) := by decide +kernel
theorem dX11_book_5 : decode YX11_book.2.1 5 = .ok (.iconst 1, 1) := by decide +kernel
theorem dX11_book_6 : decode YX11_book.2.1 6 = .ok (.if_icmp .le 7, 3) := by decide +kernel
theorem dX11_book_9 : decode YX11_book.2.1 9 = .ok (.sipush (-1000), 3) := by decide +kernel
theorem dX11_book_12 : decode YX11_book.2.1 12 = .ok (.ireturn, 1) := by decide +kernel
theorem dX11_book_13 : decode YX11_book.2.1 13 = .ok (.aload_n 0, 1) := by decide +kernel
theorem dX11_book_14 : decode YX11_book.2.1 14 = .ok (.getfield 21, 3) := by decide +kernel
theorem dX11_book_17 : decode YX11_book.2.1 17 = .ok (.sipush 400, 3) := by decide +kernel
theorem dX11_book_20 : decode YX11_book.2.1 20 = .ok (.invokevirtual 129, 3) := by decide +kernel
theorem dX11_book_23 : decode YX11_book.2.1 23 = .ok (.aload_n 0, 1) := by decide +kernel
theorem dX11_book_24 : decode YX11_book.2.1 24 = .ok (.getfield 71, 3) := by decide +kernel
theorem dX11_book_27 : decode YX11_book.2.1 27 = .ok (.aload_n 0, 1) := by decide +kernel
theorem dX11_book_28 : decode YX11_book.2.1 28 = .ok (.getfield 21, 3) := by decide +kernel
theorem dX11_book_31 : decode YX11_book.2.1 31 = .ok (.aload_n 0, 1) := by decide +kernel
theorem dX11_book_32 : decode YX11_book.2.1 32 = .ok (.getfield 28, 3) := by decide +kernel
theorem dX11_book_35 : decode YX11_book.2.1 35 = .ok (.invokevirtual 349, 3) := by decide +kernel
theorem dX11_book_38 : decode YX11_book.2.1 38 = .ok (.aload_n 0, 1) := by decide +kernel
theorem dX11_book_39 : decode YX11_book.2.1 39 = .ok (.aload_n 0, 1) := by decide +kernel
theorem dX11_book_40 : decode YX11_book.2.1 40 = .ok (.getfield 21, 3) := by decide +kernel
theorem dX11_book_43 : decode YX11_book.2.1 43 = .ok (.invokevirtual 136, 3) := by decide +kernel
theorem dX11_book_46 : decode YX11_book.2.1 46 = .ok (.putfield 139, 3) := by decide +kernel
theorem dX11_book_49 : decode YX11_book.2.1 49 = .ok (.aload_n 0, 1) := by decide +kernel
theorem dX11_book_50 : decode YX11_book.2.1 50 = .ok (.getfield 10, 3) := by decide +kernel
theorem dX11_book_53 : decode YX11_book.2.1 53 = .ok (.invokevirtual 141, 3) := by decide +kernel
theorem dX11_book_56 : decode YX11_book.2.1 56 = .ok (.aload_n 0, 1) := by decide +kernel
theorem dX11_book_57 : decode YX11_book.2.1 57 = .ok (.getfield 139, 3) := by decide +kernel
theorem dX11_book_60 : decode YX11_book.2.1 60 = .ok (.ifCond .eq 14, 3) := by decide +kernel
theorem dX11_book_63 : decode YX11_book.2.1 63 = .ok (.bipush (-2), 2) := by decide +kernel
theorem dX11_book_65 : decode YX11_book.2.1 65 = .ok (.aload_n 0, 1) := by decide +kernel
theorem dX11_book_66 : decode YX11_book.2.1 66 = .ok (.getfield 21, 3) := by decide +kernel
theorem dX11_book_69 : decode YX11_book.2.1 69 = .ok (.invokevirtual 144, 3) := by decide +kernel
theorem dX11_book_72 : decode YX11_book.2.1 72 = .ok (.isub, 1) := by decide +kernel
theorem dX11_book_73 : decode YX11_book.2.1 73 = .ok (.ireturn, 1) := by decide +kernel
theorem dX11_book_74 : decode YX11_book.2.1 74 = .ok (.aload_n 0, 1) := by decide +kernel
theorem dX11_book_75 : decode YX11_book.2.1 75 = .ok (.getfield 42, 3) := by decide +kernel
theorem dX11_book_78 : decode YX11_book.2.1 78 = .ok (.aload_n 0, 1) := by decide +kernel
theorem dX11_book_79 : decode YX11_book.2.1 79 = .ok (.getfield 38, 3) := by decide +kernel
theorem dX11_book_82 : decode YX11_book.2.1 82 = .ok (.invokevirtual 151, 3) := by decide +kernel
theorem dX11_book_85 : decode YX11_book.2.1 85 = .ok (.aload_n 0, 1) := by decide +kernel
theorem dX11_book_86 : decode YX11_book.2.1 86 = .ok (.getfield 71, 3) := by decide +kernel
theorem dX11_book_89 : decode YX11_book.2.1 89 = .ok (.aload_n 0, 1) := by decide +kernel
theorem dX11_book_90 : decode YX11_book.2.1 90 = .ok (.getfield 28, 3) := by decide +kernel
theorem dX11_book_93 : decode YX11_book.2.1 93 = .ok (.aload_n 0, 1) := by decide +kernel
theorem dX11_book_94 : decode YX11_book.2.1 94 = .ok (.getfield 42, 3) := by decide +kernel
theorem dX11_book_97 : decode YX11_book.2.1 97 = .ok (.invokevirtual 352, 3) := by decide +kernel
theorem dX11_book_100 : decode YX11_book.2.1 100 = .ok (.istore_n 2, 1) := by decide +kernel
theorem dX11_book_101 : decode YX11_book.2.1 101 = .ok (.iload_n 1, 1) := by decide +kernel
theorem dX11_book_102 : decode YX11_book.2.1 102 = .ok (.iconst 1, 1) := by decide +kernel
theorem dX11_book_103 : decode YX11_book.2.1 103 = .ok (.if_icmp .ne 14, 3) := by decide +kernel
theorem dX11_book_106 : decode YX11_book.2.1 106 = .ok (.aload_n 0, 1) := by decide +kernel
theorem dX11_book_107 : decode YX11_book.2.1 107 = .ok (.aload_n 0, 1) := by decide +kernel
theorem dX11_book_108 : decode YX11_book.2.1 108 = .ok (.getfield 71, 3) := by decide +kernel
theorem dX11_book_111 : decode YX11_book.2.1 111 = .ok (.invokevirtual 356, 3) := by decide +kernel
theorem dX11_book_114 : decode YX11_book.2.1 114 = .ok (.invokevirtual 262, 3) := by decide +kernel
theorem dX11_book_117 : decode YX11_book.2.1 117 = .ok (.iload_n 2, 1) := by decide +kernel
theorem dX11_book_118 : decode YX11_book.2.1 118 = .ok (.ireturn, 1) := by decide +kernel
theorem dX11_drawn_0 : decode YX11_drawn.2.1 0 = .ok (.iload_n 1, 1) := by decide +kernel
theorem dX11_drawn_1 : decode YX11_drawn.2.1 1 = .ok (.iconst 1, 1) := by decide +kernel
theorem dX11_drawn_2 : decode YX11_drawn.2.1 2 = .ok (.if_icmp .lt 9, 3) := by decide +kernel
theorem dX11_drawn_5 : decode YX11_drawn.2.1 5 = .ok (.iload_n 1, 1) := by decide +kernel
theorem dX11_drawn_6 : decode YX11_drawn.2.1 6 = .ok (.bipush 60, 2) := by decide +kernel
theorem dX11_drawn_8 : decode YX11_drawn.2.1 8 = .ok (.if_icmp .le 5, 3) := by decide +kernel
theorem dX11_drawn_11 : decode YX11_drawn.2.1 11 = .ok (.iconst (-1), 1) := by decide +kernel
theorem dX11_drawn_12 : decode YX11_drawn.2.1 12 = .ok (.ireturn, 1) := by decide +kernel
theorem dX11_drawn_13 : decode YX11_drawn.2.1 13 = .ok (.aload_n 0, 1) := by decide +kernel
theorem dX11_drawn_14 : decode YX11_drawn.2.1 14 = .ok (.getfield 42, 3) := by decide +kernel
theorem dX11_drawn_17 : decode YX11_drawn.2.1 17 = .ok (.aload_n 0, 1) := by decide +kernel
theorem dX11_drawn_18 : decode YX11_drawn.2.1 18 = .ok (.getfield 38, 3) := by decide +kernel
theorem dX11_drawn_21 : decode YX11_drawn.2.1 21 = .ok (.invokevirtual 151, 3) := by decide +kernel
theorem dX11_drawn_24 : decode YX11_drawn.2.1 24 = .ok (.aload_n 0, 1) := by decide +kernel
theorem dX11_drawn_25 : decode YX11_drawn.2.1 25 = .ok (.getfield 85, 3) := by decide +kernel
theorem dX11_drawn_28 : decode YX11_drawn.2.1 28 = .ok (.aload_n 0, 1) := by decide +kernel
theorem dX11_drawn_29 : decode YX11_drawn.2.1 29 = .ok (.getfield 28, 3) := by decide +kernel
theorem dX11_drawn_32 : decode YX11_drawn.2.1 32 = .ok (.aload_n 0, 1) := by decide +kernel
theorem dX11_drawn_33 : decode YX11_drawn.2.1 33 = .ok (.getfield 42, 3) := by decide +kernel
theorem dX11_drawn_36 : decode YX11_drawn.2.1 36 = .ok (.iload_n 1, 1) := by decide +kernel
theorem dX11_drawn_37 : decode YX11_drawn.2.1 37 = .ok (.iload_n 2, 1) := by decide +kernel
theorem dX11_drawn_38 : decode YX11_drawn.2.1 38 = .ok (.invokevirtual 346, 3) := by decide +kernel
theorem dX11_drawn_41 : decode YX11_drawn.2.1 41 = .ok (.istore_n 3, 1) := by decide +kernel
theorem dX11_drawn_42 : decode YX11_drawn.2.1 42 = .ok (.aload_n 0, 1) := by decide +kernel
theorem dX11_drawn_43 : decode YX11_drawn.2.1 43 = .ok (.iload_n 3, 1) := by decide +kernel
theorem dX11_drawn_44 : decode YX11_drawn.2.1 44 = .ok (.invokevirtual 262, 3) := by decide +kernel
theorem dX11_drawn_47 : decode YX11_drawn.2.1 47 = .ok (.iload_n 3, 1) := by decide +kernel
theorem dX11_drawn_48 : decode YX11_drawn.2.1 48 = .ok (.ireturn, 1) := by decide +kernel
theorem dX11_drop_0 : decode YX11_drop.2.1 0 = .ok (.aload_n 0, 1) := by decide +kernel
theorem dX11_drop_1 : decode YX11_drop.2.1 1 = .ok (.getfield 28, 3) := by decide +kernel
theorem dX11_drop_4 : decode YX11_drop.2.1 4 = .ok (.iload_n 1, 1) := by decide +kernel
theorem dX11_drop_5 : decode YX11_drop.2.1 5 = .ok (.invokevirtual 156, 3) := by decide +kernel
theorem dX11_drop_8 : decode YX11_drop.2.1 8 = .ok (.ifCond .ne 5, 3) := by decide +kernel
theorem dX11_drop_11 : decode YX11_drop.2.1 11 = .ok (.iconst (-1), 1) := by decide +kernel
theorem dX11_drop_12 : decode YX11_drop.2.1 12 = .ok (.ireturn, 1) := by decide +kernel
theorem dX11_drop_13 : decode YX11_drop.2.1 13 = .ok (.aload_n 0, 1) := by decide +kernel
theorem dX11_drop_14 : decode YX11_drop.2.1 14 = .ok (.getfield 42, 3) := by decide +kernel
theorem dX11_drop_17 : decode YX11_drop.2.1 17 = .ok (.aload_n 0, 1) := by decide +kernel
theorem dX11_drop_18 : decode YX11_drop.2.1 18 = .ok (.getfield 38, 3) := by decide +kernel
theorem dX11_drop_21 : decode YX11_drop.2.1 21 = .ok (.invokevirtual 151, 3) := by decide +kernel
theorem dX11_drop_24 : decode YX11_drop.2.1 24 = .ok (.aload_n 0, 1) := by decide +kernel
theorem dX11_drop_25 : decode YX11_drop.2.1 25 = .ok (.aload_n 0, 1) := by decide +kernel
theorem dX11_drop_26 : decode YX11_drop.2.1 26 = .ok (.getfield 42, 3) := by decide +kernel
theorem dX11_drop_29 : decode YX11_drop.2.1 29 = .ok (.iload_n 1, 1) := by decide +kernel
theorem dX11_drop_30 : decode YX11_drop.2.1 30 = .ok (.invokevirtual 240, 3) := by decide +kernel
theorem dX11_drop_33 : decode YX11_drop.2.1 33 = .ok (.invokevirtual 237, 3) := by decide +kernel
theorem dX11_drop_36 : decode YX11_drop.2.1 36 = .ok (.ireturn, 1) := by decide +kernel
theorem dX11_hire_0 : decode YX11_hire.2.1 0 = .ok (.aload_n 0, 1) := by decide +kernel
theorem dX11_hire_1 : decode YX11_hire.2.1 1 = .ok (.getfield 28, 3) := by decide +kernel
theorem dX11_hire_4 : decode YX11_hire.2.1 4 = .ok (.iload_n 1, 1) := by decide +kernel
theorem dX11_hire_5 : decode YX11_hire.2.1 5 = .ok (.invokevirtual 156, 3) := by decide +kernel
theorem dX11_hire_8 : decode YX11_hire.2.1 8 = .ok (.ifCond .eq 29, 3) := by decide +kernel
theorem dX11_hire_11 : decode YX11_hire.2.1 11 = .ok (.aload_n 0, 1) := by decide +kernel
theorem dX11_hire_12 : decode YX11_hire.2.1 12 = .ok (.getfield 28, 3) := by decide +kernel
theorem dX11_hire_15 : decode YX11_hire.2.1 15 = .ok (.iload_n 2, 1) := by decide +kernel
theorem dX11_hire_16 : decode YX11_hire.2.1 16 = .ok (.invokevirtual 156, 3) := by decide +kernel
theorem dX11_hire_19 : decode YX11_hire.2.1 19 = .ok (.ifCond .eq 18, 3) := by decide +kernel
theorem dX11_hire_22 : decode YX11_hire.2.1 22 = .ok (.iload_n 1, 1) := by decide +kernel
theorem dX11_hire_23 : decode YX11_hire.2.1 23 = .ok (.iload_n 2, 1) := by decide +kernel
theorem dX11_hire_24 : decode YX11_hire.2.1 24 = .ok (.if_icmp .eq 13, 3) := by decide +kernel
theorem dX11_hire_27 : decode YX11_hire.2.1 27 = .ok (.iload_n 3, 1) := by decide +kernel
theorem dX11_hire_28 : decode YX11_hire.2.1 28 = .ok (.iconst 1, 1) := by decide +kernel
theorem dX11_hire_29 : decode YX11_hire.2.1 29 = .ok (.if_icmp .lt 8, 3) := by decide +kernel
theorem dX11_hire_32 : decode YX11_hire.2.1 32 = .ok (.iload_n 3, 1) := by decide +kernel
theorem dX11_hire_33 : decode YX11_hire.2.1 33 = .ok (.iconst 5, 1) := by decide +kernel
theorem dX11_hire_34 : decode YX11_hire.2.1 34 = .ok (.if_icmp .le 5, 3) := by decide +kernel
theorem dX11_hire_37 : decode YX11_hire.2.1 37 = .ok (.iconst (-1), 1) := by decide +kernel
theorem dX11_hire_38 : decode YX11_hire.2.1 38 = .ok (.ireturn, 1) := by decide +kernel
theorem dX11_hire_39 : decode YX11_hire.2.1 39 = .ok (.aload_n 0, 1) := by decide +kernel
theorem dX11_hire_40 : decode YX11_hire.2.1 40 = .ok (.getfield 42, 3) := by decide +kernel
theorem dX11_hire_43 : decode YX11_hire.2.1 43 = .ok (.aload_n 0, 1) := by decide +kernel
theorem dX11_hire_44 : decode YX11_hire.2.1 44 = .ok (.getfield 38, 3) := by decide +kernel
theorem dX11_hire_47 : decode YX11_hire.2.1 47 = .ok (.invokevirtual 151, 3) := by decide +kernel
theorem dX11_hire_50 : decode YX11_hire.2.1 50 = .ok (.aload_n 0, 1) := by decide +kernel
theorem dX11_hire_51 : decode YX11_hire.2.1 51 = .ok (.aload_n 0, 1) := by decide +kernel
theorem dX11_hire_52 : decode YX11_hire.2.1 52 = .ok (.getfield 42, 3) := by decide +kernel
theorem dX11_hire_55 : decode YX11_hire.2.1 55 = .ok (.iload_n 1, 1) := by decide +kernel
theorem dX11_hire_56 : decode YX11_hire.2.1 56 = .ok (.iload_n 2, 1) := by decide +kernel
theorem dX11_hire_57 : decode YX11_hire.2.1 57 = .ok (.iload_n 3, 1) := by decide +kernel
theorem dX11_hire_58 : decode YX11_hire.2.1 58 = .ok (.invokevirtual 246, 3) := by decide +kernel
theorem dX11_hire_61 : decode YX11_hire.2.1 61 = .ok (.invokevirtual 237, 3) := by decide +kernel
theorem dX11_hire_64 : decode YX11_hire.2.1 64 = .ok (.ireturn, 1) := by decide +kernel
theorem dX11_hires_0 : decode YX11_hires.2.1 0 = .ok (.aload_n 0, 1) := by decide +kernel
theorem dX11_hires_1 : decode YX11_hires.2.1 1 = .ok (.getfield 78, 3) := by decide +kernel
theorem dX11_hires_4 : decode YX11_hires.2.1 4 = .ok (.aload_n 0, 1) := by decide +kernel
theorem dX11_hires_5 : decode YX11_hires.2.1 5 = .ok (.getfield 28, 3) := by decide +kernel
theorem dX11_hires_8 : decode YX11_hires.2.1 8 = .ok (.aload_n 0, 1) := by decide +kernel
theorem dX11_hires_9 : decode YX11_hires.2.1 9 = .ok (.getfield 38, 3) := by decide +kernel
theorem dX11_hires_12 : decode YX11_hires.2.1 12 = .ok (.invokevirtual 295, 3) := by decide +kernel
theorem dX11_hires_15 : decode YX11_hires.2.1 15 = .ok (.aload_n 0, 1) := by decide +kernel
theorem dX11_hires_16 : decode YX11_hires.2.1 16 = .ok (.getfield 78, 3) := by decide +kernel
theorem dX11_hires_19 : decode YX11_hires.2.1 19 = .ok (.invokevirtual 299, 3) := by decide +kernel
theorem dX11_hires_22 : decode YX11_hires.2.1 22 = .ok (.ireturn, 1) := by decide +kernel
theorem dX11_image_0 : decode YX11_image.2.1 0 = .ok (.aload_n 0, 1) := by decide +kernel
theorem dX11_image_1 : decode YX11_image.2.1 1 = .ok (.iload_n 1, 1) := by decide +kernel
theorem dX11_image_2 : decode YX11_image.2.1 2 = .ok (.invokevirtual 379, 3) := by decide +kernel
theorem dX11_image_5 : decode YX11_image.2.1 5 = .ok (.astore_n 2, 1) := by decide +kernel
theorem dX11_image_6 : decode YX11_image.2.1 6 = .ok (.aload_n 2, 1) := by decide +kernel
theorem dX11_image_7 : decode YX11_image.2.1 7 = .ok (.ifnonnull 5, 3) := by decide +kernel
theorem dX11_image_10 : decode YX11_image.2.1 10 = .ok (.iconst 0, 1) := by decide +kernel
theorem dX11_image_11 : decode YX11_image.2.1 11 = .ok (.ireturn, 1) := by decide +kernel
theorem dX11_image_12 : decode YX11_image.2.1 12 = .ok (.aload_n 2, 1) := by decide +kernel
theorem dX11_image_13 : decode YX11_image.2.1 13 = .ok (.aload_n 0, 1) := by decide +kernel
theorem dX11_image_14 : decode YX11_image.2.1 14 = .ok (.getfield 28, 3) := by decide +kernel
theorem dX11_image_17 : decode YX11_image.2.1 17 = .ok (.aload_n 0, 1) := by decide +kernel
theorem dX11_image_18 : decode YX11_image.2.1 18 = .ok (.getfield 38, 3) := by decide +kernel
theorem dX11_image_21 : decode YX11_image.2.1 21 = .ok (.aload_n 0, 1) := by decide +kernel
theorem dX11_image_22 : decode YX11_image.2.1 22 = .ok (.getfield 48, 3) := by decide +kernel
theorem dX11_image_25 : decode YX11_image.2.1 25 = .ok (.invokevirtual 383, 3) := by decide +kernel
theorem dX11_image_28 : decode YX11_image.2.1 28 = .ok (.iconst 1, 1) := by decide +kernel
theorem dX11_image_29 : decode YX11_image.2.1 29 = .ok (.ireturn, 1) := by decide +kernel
theorem dX11_imageIn_0 : decode YX11_imageIn.2.1 0 = .ok (.iload_n 1, 1) := by decide +kernel
theorem dX11_imageIn_1 : decode YX11_imageIn.2.1 1 = .ok (.ifCond .lt 17, 3) := by decide +kernel
theorem dX11_imageIn_4 : decode YX11_imageIn.2.1 4 = .ok (.iload_n 1, 1) := by decide +kernel
theorem dX11_imageIn_5 : decode YX11_imageIn.2.1 5 = .ok (.iconst 2, 1) := by decide +kernel
theorem dX11_imageIn_6 : decode YX11_imageIn.2.1 6 = .ok (.if_icmp .ge 12, 3) := by decide +kernel
theorem dX11_imageIn_9 : decode YX11_imageIn.2.1 9 = .ok (.aload_n 0, 1) := by decide +kernel
theorem dX11_imageIn_10 : decode YX11_imageIn.2.1 10 = .ok (.getfield 64, 3) := by decide +kernel
theorem dX11_imageIn_13 : decode YX11_imageIn.2.1 13 = .ok (.iload_n 1, 1) := by decide +kernel
theorem dX11_imageIn_14 : decode YX11_imageIn.2.1 14 = .ok (.aaload, 1) := by decide +kernel
theorem dX11_imageIn_15 : decode YX11_imageIn.2.1 15 = .ok (.goto 4, 3) := by decide +kernel
theorem dX11_imageIn_18 : decode YX11_imageIn.2.1 18 = .ok (.aconst_null, 1) := by decide +kernel
theorem dX11_imageIn_19 : decode YX11_imageIn.2.1 19 = .ok (.areturn, 1) := by decide +kernel
theorem dX11_leave_0 : decode YX11_leave.2.1 0 = .ok (.aload_n 0, 1) := by decide +kernel
theorem dX11_leave_1 : decode YX11_leave.2.1 1 = .ok (.getfield 28, 3) := by decide +kernel
theorem dX11_leave_4 : decode YX11_leave.2.1 4 = .ok (.iload_n 1, 1) := by decide +kernel
theorem dX11_leave_5 : decode YX11_leave.2.1 5 = .ok (.invokevirtual 156, 3) := by decide +kernel
theorem dX11_leave_8 : decode YX11_leave.2.1 8 = .ok (.ifCond .ne 5, 3) := by decide +kernel
theorem dX11_leave_11 : decode YX11_leave.2.1 11 = .ok (.iconst (-1), 1) := by decide +kernel
theorem dX11_leave_12 : decode YX11_leave.2.1 12 = .ok (.ireturn, 1) := by decide +kernel
theorem dX11_leave_13 : decode YX11_leave.2.1 13 = .ok (.aload_n 0, 1) := by decide +kernel
theorem dX11_leave_14 : decode YX11_leave.2.1 14 = .ok (.getfield 42, 3) := by decide +kernel
theorem dX11_leave_17 : decode YX11_leave.2.1 17 = .ok (.aload_n 0, 1) := by decide +kernel
theorem dX11_leave_18 : decode YX11_leave.2.1 18 = .ok (.getfield 38, 3) := by decide +kernel
theorem dX11_leave_21 : decode YX11_leave.2.1 21 = .ok (.invokevirtual 151, 3) := by decide +kernel
theorem dX11_leave_24 : decode YX11_leave.2.1 24 = .ok (.aload_n 0, 1) := by decide +kernel
theorem dX11_leave_25 : decode YX11_leave.2.1 25 = .ok (.aload_n 0, 1) := by decide +kernel
theorem dX11_leave_26 : decode YX11_leave.2.1 26 = .ok (.getfield 42, 3) := by decide +kernel
theorem dX11_leave_29 : decode YX11_leave.2.1 29 = .ok (.iload_n 1, 1) := by decide +kernel
theorem dX11_leave_30 : decode YX11_leave.2.1 30 = .ok (.invokevirtual 243, 3) := by decide +kernel
theorem dX11_leave_33 : decode YX11_leave.2.1 33 = .ok (.invokevirtual 237, 3) := by decide +kernel
theorem dX11_leave_36 : decode YX11_leave.2.1 36 = .ok (.ireturn, 1) := by decide +kernel
theorem dX11_minutes_0 : decode YX11_minutes.2.1 0 = .ok (.iload_n 1, 1) := by decide +kernel
theorem dX11_minutes_1 : decode YX11_minutes.2.1 1 = .ok (.iconst 1, 1) := by decide +kernel
theorem dX11_minutes_2 : decode YX11_minutes.2.1 2 = .ok (.if_icmp .lt 9, 3) := by decide +kernel
theorem dX11_minutes_5 : decode YX11_minutes.2.1 5 = .ok (.iload_n 1, 1) := by decide +kernel
theorem dX11_minutes_6 : decode YX11_minutes.2.1 6 = .ok (.bipush 60, 2) := by decide +kernel
theorem dX11_minutes_8 : decode YX11_minutes.2.1 8 = .ok (.if_icmp .le 5, 3) := by decide +kernel
theorem dX11_minutes_11 : decode YX11_minutes.2.1 11 = .ok (.iconst (-1), 1) := by decide +kernel
theorem dX11_minutes_12 : decode YX11_minutes.2.1 12 = .ok (.ireturn, 1) := by decide +kernel
theorem dX11_minutes_13 : decode YX11_minutes.2.1 13 = .ok (.aload_n 0, 1) := by decide +kernel
theorem dX11_minutes_14 : decode YX11_minutes.2.1 14 = .ok (.getfield 42, 3) := by decide +kernel
theorem dX11_minutes_17 : decode YX11_minutes.2.1 17 = .ok (.aload_n 0, 1) := by decide +kernel
theorem dX11_minutes_18 : decode YX11_minutes.2.1 18 = .ok (.getfield 38, 3) := by decide +kernel
theorem dX11_minutes_21 : decode YX11_minutes.2.1 21 = .ok (.invokevirtual 151, 3) := by decide +kernel
theorem dX11_minutes_24 : decode YX11_minutes.2.1 24 = .ok (.iload_n 1, 1) := by decide +kernel
theorem dX11_minutes_25 : decode YX11_minutes.2.1 25 = .ok (.aload_n 0, 1) := by decide +kernel
theorem dX11_minutes_26 : decode YX11_minutes.2.1 26 = .ok (.getfield 42, 3) := by decide +kernel
theorem dX11_minutes_29 : decode YX11_minutes.2.1 29 = .ok (.invokevirtual 250, 3) := by decide +kernel
theorem dX11_minutes_32 : decode YX11_minutes.2.1 32 = .ok (.invokestatic 253, 3) := by decide +kernel
theorem dX11_minutes_35 : decode YX11_minutes.2.1 35 = .ok (.istore_n 2, 1) := by decide +kernel
theorem dX11_minutes_36 : decode YX11_minutes.2.1 36 = .ok (.aload_n 0, 1) := by decide +kernel
theorem dX11_minutes_37 : decode YX11_minutes.2.1 37 = .ok (.getfield 42, 3) := by decide +kernel
theorem dX11_minutes_40 : decode YX11_minutes.2.1 40 = .ok (.aload_n 0, 1) := by decide +kernel
theorem dX11_minutes_41 : decode YX11_minutes.2.1 41 = .ok (.getfield 28, 3) := by decide +kernel
theorem dX11_minutes_44 : decode YX11_minutes.2.1 44 = .ok (.iload_n 2, 1) := by decide +kernel
theorem dX11_minutes_45 : decode YX11_minutes.2.1 45 = .ok (.invokevirtual 258, 3) := by decide +kernel
theorem dX11_minutes_48 : decode YX11_minutes.2.1 48 = .ok (.aload_n 0, 1) := by decide +kernel
theorem dX11_minutes_49 : decode YX11_minutes.2.1 49 = .ok (.iload_n 2, 1) := by decide +kernel
theorem dX11_minutes_50 : decode YX11_minutes.2.1 50 = .ok (.invokevirtual 262, 3) := by decide +kernel
theorem dX11_minutes_53 : decode YX11_minutes.2.1 53 = .ok (.iload_n 2, 1) := by decide +kernel
theorem dX11_minutes_54 : decode YX11_minutes.2.1 54 = .ok (.ireturn, 1) := by decide +kernel
theorem dX11_restore_0 : decode YX11_restore.2.1 0 = .ok (.aload_n 0, 1) := by decide +kernel
theorem dX11_restore_1 : decode YX11_restore.2.1 1 = .ok (.iload_n 1, 1) := by decide +kernel
theorem dX11_restore_2 : decode YX11_restore.2.1 2 = .ok (.invokevirtual 379, 3) := by decide +kernel
theorem dX11_restore_5 : decode YX11_restore.2.1 5 = .ok (.astore_n 2, 1) := by decide +kernel
theorem dX11_restore_6 : decode YX11_restore.2.1 6 = .ok (.aload_n 2, 1) := by decide +kernel
theorem dX11_restore_7 : decode YX11_restore.2.1 7 = .ok (.ifnull 10, 3) := by decide +kernel
theorem dX11_restore_10 : decode YX11_restore.2.1 10 = .ok (.aload_n 2, 1) := by decide +kernel
theorem dX11_restore_11 : decode YX11_restore.2.1 11 = .ok (.invokevirtual 387, 3) := by decide +kernel
theorem dX11_restore_14 : decode YX11_restore.2.1 14 = .ok (.ifCond .ne 5, 3) := by decide +kernel
theorem dX11_restore_17 : decode YX11_restore.2.1 17 = .ok (.iconst 0, 1) := by decide +kernel
theorem dX11_restore_18 : decode YX11_restore.2.1 18 = .ok (.ireturn, 1) := by decide +kernel
theorem dX11_restore_19 : decode YX11_restore.2.1 19 = .ok (.aload_n 2, 1) := by decide +kernel
theorem dX11_restore_20 : decode YX11_restore.2.1 20 = .ok (.aload_n 0, 1) := by decide +kernel
theorem dX11_restore_21 : decode YX11_restore.2.1 21 = .ok (.getfield 28, 3) := by decide +kernel
theorem dX11_restore_24 : decode YX11_restore.2.1 24 = .ok (.aload_n 0, 1) := by decide +kernel
theorem dX11_restore_25 : decode YX11_restore.2.1 25 = .ok (.getfield 38, 3) := by decide +kernel
theorem dX11_restore_28 : decode YX11_restore.2.1 28 = .ok (.aload_n 0, 1) := by decide +kernel
theorem dX11_restore_29 : decode YX11_restore.2.1 29 = .ok (.getfield 48, 3) := by decide +kernel
theorem dX11_restore_32 : decode YX11_restore.2.1 32 = .ok (.invokevirtual 390, 3) := by decide +kernel
theorem dX11_restore_35 : decode YX11_restore.2.1 35 = .ok (.aload_n 0, 1) := by decide +kernel
theorem dX11_restore_36 : decode YX11_restore.2.1 36 = .ok (.getfield 58, 3) := by decide +kernel
theorem dX11_restore_39 : decode YX11_restore.2.1 39 = .ok (.invokevirtual 155, 3) := by decide +kernel
theorem dX11_restore_42 : decode YX11_restore.2.1 42 = .ok (.iconst 1, 1) := by decide +kernel
theorem dX11_restore_43 : decode YX11_restore.2.1 43 = .ok (.ireturn, 1) := by decide +kernel
theorem dX11_send_0 : decode YX11_send.2.1 0 = .ok (.aload_n 0, 1) := by decide +kernel
theorem dX11_send_1 : decode YX11_send.2.1 1 = .ok (.getfield 28, 3) := by decide +kernel
theorem dX11_send_4 : decode YX11_send.2.1 4 = .ok (.iload_n 1, 1) := by decide +kernel
theorem dX11_send_5 : decode YX11_send.2.1 5 = .ok (.invokevirtual 156, 3) := by decide +kernel
theorem dX11_send_8 : decode YX11_send.2.1 8 = .ok (.ifCond .eq 14, 3) := by decide +kernel
theorem dX11_send_11 : decode YX11_send.2.1 11 = .ok (.aload_n 0, 1) := by decide +kernel
theorem dX11_send_12 : decode YX11_send.2.1 12 = .ok (.getfield 28, 3) := by decide +kernel
theorem dX11_send_15 : decode YX11_send.2.1 15 = .ok (.iload_n 2, 1) := by decide +kernel
theorem dX11_send_16 : decode YX11_send.2.1 16 = .ok (.invokevirtual 192, 3) := by decide +kernel
theorem dX11_send_19 : decode YX11_send.2.1 19 = .ok (.ifCond .ne 5, 3) := by decide +kernel
theorem dX11_send_22 : decode YX11_send.2.1 22 = .ok (.iconst (-1), 1) := by decide +kernel
theorem dX11_send_23 : decode YX11_send.2.1 23 = .ok (.ireturn, 1) := by decide +kernel
theorem dX11_send_24 : decode YX11_send.2.1 24 = .ok (.aload_n 0, 1) := by decide +kernel
theorem dX11_send_25 : decode YX11_send.2.1 25 = .ok (.getfield 42, 3) := by decide +kernel
theorem dX11_send_28 : decode YX11_send.2.1 28 = .ok (.aload_n 0, 1) := by decide +kernel
theorem dX11_send_29 : decode YX11_send.2.1 29 = .ok (.getfield 38, 3) := by decide +kernel
theorem dX11_send_32 : decode YX11_send.2.1 32 = .ok (.invokevirtual 151, 3) := by decide +kernel
theorem dX11_send_35 : decode YX11_send.2.1 35 = .ok (.aload_n 0, 1) := by decide +kernel
theorem dX11_send_36 : decode YX11_send.2.1 36 = .ok (.aload_n 0, 1) := by decide +kernel
theorem dX11_send_37 : decode YX11_send.2.1 37 = .ok (.getfield 42, 3) := by decide +kernel
theorem dX11_send_40 : decode YX11_send.2.1 40 = .ok (.aload_n 0, 1) := by decide +kernel
theorem dX11_send_41 : decode YX11_send.2.1 41 = .ok (.getfield 28, 3) := by decide +kernel
theorem dX11_send_44 : decode YX11_send.2.1 44 = .ok (.iload_n 1, 1) := by decide +kernel
theorem dX11_send_45 : decode YX11_send.2.1 45 = .ok (.iload_n 2, 1) := by decide +kernel
theorem dX11_send_46 : decode YX11_send.2.1 46 = .ok (.invokevirtual 233, 3) := by decide +kernel
theorem dX11_send_49 : decode YX11_send.2.1 49 = .ok (.invokevirtual 237, 3) := by decide +kernel
theorem dX11_send_52 : decode YX11_send.2.1 52 = .ok (.ireturn, 1) := by decide +kernel
theorem dX11_settle_0 : decode YX11_settle.2.1 0 = .ok (.iload_n 1, 1) := by decide +kernel
theorem dX11_settle_1 : decode YX11_settle.2.1 1 = .ok (.ifCond .le 25, 3) := by decide +kernel
theorem dX11_settle_4 : decode YX11_settle.2.1 4 = .ok (.aload_n 0, 1) := by decide +kernel
theorem dX11_settle_5 : decode YX11_settle.2.1 5 = .ok (.getfield 58, 3) := by decide +kernel
theorem dX11_settle_8 : decode YX11_settle.2.1 8 = .ok (.aload_n 0, 1) := by decide +kernel
theorem dX11_settle_9 : decode YX11_settle.2.1 9 = .ok (.getfield 38, 3) := by decide +kernel
theorem dX11_settle_12 : decode YX11_settle.2.1 12 = .ok (.invokevirtual 399, 3) := by decide +kernel
theorem dX11_settle_15 : decode YX11_settle.2.1 15 = .ok (.aload_n 0, 1) := by decide +kernel
theorem dX11_settle_16 : decode YX11_settle.2.1 16 = .ok (.getfield 38, 3) := by decide +kernel
theorem dX11_settle_19 : decode YX11_settle.2.1 19 = .ok (.aload_n 0, 1) := by decide +kernel
theorem dX11_settle_20 : decode YX11_settle.2.1 20 = .ok (.getfield 42, 3) := by decide +kernel
theorem dX11_settle_23 : decode YX11_settle.2.1 23 = .ok (.invokevirtual 151, 3) := by decide +kernel
theorem dX11_settle_26 : decode YX11_settle.2.1 26 = .ok (.return_, 1) := by decide +kernel
theorem dX11_settleIfDone_0 : decode YX11_settleIfDone.2.1 0 = .ok (.aload_n 0, 1) := by decide +kernel
theorem dX11_settleIfDone_1 : decode YX11_settleIfDone.2.1 1 = .ok (.iload_n 1, 1) := by decide +kernel
theorem dX11_settleIfDone_2 : decode YX11_settleIfDone.2.1 2 = .ok (.ifCond .ne 7, 3) := by decide +kernel
theorem dX11_settleIfDone_5 : decode YX11_settleIfDone.2.1 5 = .ok (.iconst 1, 1) := by decide +kernel
theorem dX11_settleIfDone_6 : decode YX11_settleIfDone.2.1 6 = .ok (.goto 4, 3) := by decide +kernel
theorem dX11_settleIfDone_9 : decode YX11_settleIfDone.2.1 9 = .ok (.iconst 0, 1) := by decide +kernel
theorem dX11_settleIfDone_10 : decode YX11_settleIfDone.2.1 10 = .ok (.invokevirtual 262, 3) := by decide +kernel
theorem dX11_settleIfDone_13 : decode YX11_settleIfDone.2.1 13 = .ok (.iload_n 1, 1) := by decide +kernel
theorem dX11_settleIfDone_14 : decode YX11_settleIfDone.2.1 14 = .ok (.ireturn, 1) := by decide +kernel
theorem dX11_undo_0 : decode YX11_undo.2.1 0 = .ok (.aload_n 0, 1) := by decide +kernel
theorem dX11_undo_1 : decode YX11_undo.2.1 1 = .ok (.getfield 58, 3) := by decide +kernel
theorem dX11_undo_4 : decode YX11_undo.2.1 4 = .ok (.invokevirtual 265, 3) := by decide +kernel
theorem dX11_undo_7 : decode YX11_undo.2.1 7 = .ok (.ifCond .ne 5, 3) := by decide +kernel
theorem dX11_undo_10 : decode YX11_undo.2.1 10 = .ok (.iconst (-1), 1) := by decide +kernel
theorem dX11_undo_11 : decode YX11_undo.2.1 11 = .ok (.ireturn, 1) := by decide +kernel
theorem dX11_undo_12 : decode YX11_undo.2.1 12 = .ok (.aload_n 0, 1) := by decide +kernel
theorem dX11_undo_13 : decode YX11_undo.2.1 13 = .ok (.getfield 58, 3) := by decide +kernel
theorem dX11_undo_16 : decode YX11_undo.2.1 16 = .ok (.aload_n 0, 1) := by decide +kernel
theorem dX11_undo_17 : decode YX11_undo.2.1 17 = .ok (.getfield 38, 3) := by decide +kernel
theorem dX11_undo_20 : decode YX11_undo.2.1 20 = .ok (.invokevirtual 266, 3) := by decide +kernel
theorem dX11_undo_23 : decode YX11_undo.2.1 23 = .ok (.aload_n 0, 1) := by decide +kernel
theorem dX11_undo_24 : decode YX11_undo.2.1 24 = .ok (.getfield 58, 3) := by decide +kernel
theorem dX11_undo_27 : decode YX11_undo.2.1 27 = .ok (.invokevirtual 265, 3) := by decide +kernel
theorem dX11_undo_30 : decode YX11_undo.2.1 30 = .ok (.ireturn, 1) := by decide +kernel
theorem dX3_add_0 : decode YX3_add.2.1 0 = .ok (.aload_n 0, 1) := by decide +kernel
theorem dX3_add_1 : decode YX3_add.2.1 1 = .ok (.aload_n 0, 1) := by decide +kernel
theorem dX3_add_2 : decode YX3_add.2.1 2 = .ok (.getfield 20, 3) := by decide +kernel
theorem dX3_add_5 : decode YX3_add.2.1 5 = .ok (.invokevirtual 23, 3) := by decide +kernel
theorem dX3_add_8 : decode YX3_add.2.1 8 = .ok (.astore_n 2, 1) := by decide +kernel
theorem dX3_add_9 : decode YX3_add.2.1 9 = .ok (.aload_n 2, 1) := by decide +kernel
theorem dX3_add_10 : decode YX3_add.2.1 10 = .ok (.ifnull 36, 3) := by decide +kernel
theorem dX3_add_13 : decode YX3_add.2.1 13 = .ok (.aload_n 2, 1) := by decide +kernel
theorem dX3_add_14 : decode YX3_add.2.1 14 = .ok (.aload_n 1, 1) := by decide +kernel
theorem dX3_add_15 : decode YX3_add.2.1 15 = .ok (.invokevirtual 27, 3) := by decide +kernel
theorem dX3_add_18 : decode YX3_add.2.1 18 = .ok (.aload_n 0, 1) := by decide +kernel
theorem dX3_add_19 : decode YX3_add.2.1 19 = .ok (.aload_n 0, 1) := by decide +kernel
theorem dX3_add_20 : decode YX3_add.2.1 20 = .ok (.getfield 20, 3) := by decide +kernel
theorem dX3_add_23 : decode YX3_add.2.1 23 = .ok (.iconst 1, 1) := by decide +kernel
theorem dX3_add_24 : decode YX3_add.2.1 24 = .ok (.iadd, 1) := by decide +kernel
theorem dX3_add_25 : decode YX3_add.2.1 25 = .ok (.bipush 8, 2) := by decide +kernel
theorem dX3_add_27 : decode YX3_add.2.1 27 = .ok (.irem, 1) := by decide +kernel
theorem dX3_add_28 : decode YX3_add.2.1 28 = .ok (.putfield 20, 3) := by decide +kernel
theorem dX3_add_31 : decode YX3_add.2.1 31 = .ok (.aload_n 0, 1) := by decide +kernel
theorem dX3_add_32 : decode YX3_add.2.1 32 = .ok (.bipush 8, 2) := by decide +kernel
theorem dX3_add_34 : decode YX3_add.2.1 34 = .ok (.aload_n 0, 1) := by decide +kernel
theorem dX3_add_35 : decode YX3_add.2.1 35 = .ok (.getfield 16, 3) := by decide +kernel
theorem dX3_add_38 : decode YX3_add.2.1 38 = .ok (.iconst 1, 1) := by decide +kernel
theorem dX3_add_39 : decode YX3_add.2.1 39 = .ok (.iadd, 1) := by decide +kernel
theorem dX3_add_40 : decode YX3_add.2.1 40 = .ok (.invokestatic 31, 3) := by decide +kernel
theorem dX3_add_43 : decode YX3_add.2.1 43 = .ok (.putfield 16, 3) := by decide +kernel
theorem dX3_add_46 : decode YX3_add.2.1 46 = .ok (.return_, 1) := by decide +kernel
theorem dX3_dayIn_0 : decode YX3_dayIn.2.1 0 = .ok (.iload_n 1, 1) := by decide +kernel
theorem dX3_dayIn_1 : decode YX3_dayIn.2.1 1 = .ok (.ifCond .lt 18, 3) := by decide +kernel
theorem dX3_dayIn_4 : decode YX3_dayIn.2.1 4 = .ok (.iload_n 1, 1) := by decide +kernel
theorem dX3_dayIn_5 : decode YX3_dayIn.2.1 5 = .ok (.bipush 8, 2) := by decide +kernel
theorem dX3_dayIn_7 : decode YX3_dayIn.2.1 7 = .ok (.if_icmp .ge 12, 3) := by decide +kernel
theorem dX3_dayIn_10 : decode YX3_dayIn.2.1 10 = .ok (.aload_n 0, 1) := by decide +kernel
theorem dX3_dayIn_11 : decode YX3_dayIn.2.1 11 = .ok (.getfield 11, 3) := by decide +kernel
theorem dX3_dayIn_14 : decode YX3_dayIn.2.1 14 = .ok (.iload_n 1, 1) := by decide +kernel
theorem dX3_dayIn_15 : decode YX3_dayIn.2.1 15 = .ok (.aaload, 1) := by decide +kernel
theorem dX3_dayIn_16 : decode YX3_dayIn.2.1 16 = .ok (.goto 4, 3) := by decide +kernel
theorem dX3_dayIn_19 : decode YX3_dayIn.2.1 19 = .ok (.aconst_null, 1) := by decide +kernel
theorem dX3_dayIn_20 : decode YX3_dayIn.2.1 20 = .ok (.areturn, 1) := by decide +kernel
theorem dX3_takeBack_0 : decode YX3_takeBack.2.1 0 = .ok (.aload_n 0, 1) := by decide +kernel
theorem dX3_takeBack_1 : decode YX3_takeBack.2.1 1 = .ok (.aload_n 0, 1) := by decide +kernel
theorem dX3_takeBack_2 : decode YX3_takeBack.2.1 2 = .ok (.getfield 20, 3) := by decide +kernel
theorem dX3_takeBack_5 : decode YX3_takeBack.2.1 5 = .ok (.bipush 8, 2) := by decide +kernel
theorem dX3_takeBack_7 : decode YX3_takeBack.2.1 7 = .ok (.iadd, 1) := by decide +kernel
theorem dX3_takeBack_8 : decode YX3_takeBack.2.1 8 = .ok (.iconst 1, 1) := by decide +kernel
theorem dX3_takeBack_9 : decode YX3_takeBack.2.1 9 = .ok (.isub, 1) := by decide +kernel
theorem dX3_takeBack_10 : decode YX3_takeBack.2.1 10 = .ok (.bipush 8, 2) := by decide +kernel
theorem dX3_takeBack_12 : decode YX3_takeBack.2.1 12 = .ok (.irem, 1) := by decide +kernel
theorem dX3_takeBack_13 : decode YX3_takeBack.2.1 13 = .ok (.putfield 20, 3) := by decide +kernel
theorem dX3_takeBack_16 : decode YX3_takeBack.2.1 16 = .ok (.aload_n 0, 1) := by decide +kernel
theorem dX3_takeBack_17 : decode YX3_takeBack.2.1 17 = .ok (.iconst 0, 1) := by decide +kernel
theorem dX3_takeBack_18 : decode YX3_takeBack.2.1 18 = .ok (.aload_n 0, 1) := by decide +kernel
theorem dX3_takeBack_19 : decode YX3_takeBack.2.1 19 = .ok (.getfield 16, 3) := by decide +kernel
theorem dX3_takeBack_22 : decode YX3_takeBack.2.1 22 = .ok (.iconst 1, 1) := by decide +kernel
theorem dX3_takeBack_23 : decode YX3_takeBack.2.1 23 = .ok (.isub, 1) := by decide +kernel
theorem dX3_takeBack_24 : decode YX3_takeBack.2.1 24 = .ok (.invokestatic 37, 3) := by decide +kernel
theorem dX3_takeBack_27 : decode YX3_takeBack.2.1 27 = .ok (.putfield 16, 3) := by decide +kernel
theorem dX3_takeBack_30 : decode YX3_takeBack.2.1 30 = .ok (.aload_n 0, 1) := by decide +kernel
theorem dX3_takeBack_31 : decode YX3_takeBack.2.1 31 = .ok (.aload_n 0, 1) := by decide +kernel
theorem dX3_takeBack_32 : decode YX3_takeBack.2.1 32 = .ok (.getfield 20, 3) := by decide +kernel
theorem dX3_takeBack_35 : decode YX3_takeBack.2.1 35 = .ok (.invokevirtual 23, 3) := by decide +kernel
theorem dX3_takeBack_38 : decode YX3_takeBack.2.1 38 = .ok (.astore_n 2, 1) := by decide +kernel
theorem dX3_takeBack_39 : decode YX3_takeBack.2.1 39 = .ok (.aload_n 2, 1) := by decide +kernel
theorem dX3_takeBack_40 : decode YX3_takeBack.2.1 40 = .ok (.ifnull 8, 3) := by decide +kernel
theorem dX3_takeBack_43 : decode YX3_takeBack.2.1 43 = .ok (.aload_n 1, 1) := by decide +kernel
theorem dX3_takeBack_44 : decode YX3_takeBack.2.1 44 = .ok (.aload_n 2, 1) := by decide +kernel
theorem dX3_takeBack_45 : decode YX3_takeBack.2.1 45 = .ok (.invokevirtual 27, 3) := by decide +kernel
theorem dX3_takeBack_48 : decode YX3_takeBack.2.1 48 = .ok (.return_, 1) := by decide +kernel
theorem dX4_giveBack_0 : decode YX4_giveBack.2.1 0 = .ok (.aload_n 1, 1) := by decide +kernel
theorem dX4_giveBack_1 : decode YX4_giveBack.2.1 1 = .ok (.aload_n 0, 1) := by decide +kernel
theorem dX4_giveBack_2 : decode YX4_giveBack.2.1 2 = .ok (.getfield 10, 3) := by decide +kernel
theorem dX4_giveBack_5 : decode YX4_giveBack.2.1 5 = .ok (.invokevirtual 34, 3) := by decide +kernel
theorem dX4_giveBack_8 : decode YX4_giveBack.2.1 8 = .ok (.aload_n 2, 1) := by decide +kernel
theorem dX4_giveBack_9 : decode YX4_giveBack.2.1 9 = .ok (.aload_n 0, 1) := by decide +kernel
theorem dX4_giveBack_10 : decode YX4_giveBack.2.1 10 = .ok (.getfield 19, 3) := by decide +kernel
theorem dX4_giveBack_13 : decode YX4_giveBack.2.1 13 = .ok (.invokevirtual 38, 3) := by decide +kernel
theorem dX4_giveBack_16 : decode YX4_giveBack.2.1 16 = .ok (.aload_n 3, 1) := by decide +kernel
theorem dX4_giveBack_17 : decode YX4_giveBack.2.1 17 = .ok (.aload_n 0, 1) := by decide +kernel
theorem dX4_giveBack_18 : decode YX4_giveBack.2.1 18 = .ok (.getfield 26, 3) := by decide +kernel
theorem dX4_giveBack_21 : decode YX4_giveBack.2.1 21 = .ok (.invokevirtual 41, 3) := by decide +kernel
theorem dX4_giveBack_24 : decode YX4_giveBack.2.1 24 = .ok (.return_, 1) := by decide +kernel
theorem dX4_isFull_0 : decode YX4_isFull.2.1 0 = .ok (.aload_n 0, 1) := by decide +kernel
theorem dX4_isFull_1 : decode YX4_isFull.2.1 1 = .ok (.getfield 30, 3) := by decide +kernel
theorem dX4_isFull_4 : decode YX4_isFull.2.1 4 = .ok (.ireturn, 1) := by decide +kernel
theorem dX4_keep_0 : decode YX4_keep.2.1 0 = .ok (.aload_n 0, 1) := by decide +kernel
theorem dX4_keep_1 : decode YX4_keep.2.1 1 = .ok (.getfield 10, 3) := by decide +kernel
theorem dX4_keep_4 : decode YX4_keep.2.1 4 = .ok (.aload_n 1, 1) := by decide +kernel
theorem dX4_keep_5 : decode YX4_keep.2.1 5 = .ok (.invokevirtual 34, 3) := by decide +kernel
theorem dX4_keep_8 : decode YX4_keep.2.1 8 = .ok (.aload_n 0, 1) := by decide +kernel
theorem dX4_keep_9 : decode YX4_keep.2.1 9 = .ok (.getfield 19, 3) := by decide +kernel
theorem dX4_keep_12 : decode YX4_keep.2.1 12 = .ok (.aload_n 2, 1) := by decide +kernel
theorem dX4_keep_13 : decode YX4_keep.2.1 13 = .ok (.invokevirtual 38, 3) := by decide +kernel
theorem dX4_keep_16 : decode YX4_keep.2.1 16 = .ok (.aload_n 0, 1) := by decide +kernel
theorem dX4_keep_17 : decode YX4_keep.2.1 17 = .ok (.getfield 26, 3) := by decide +kernel
theorem dX4_keep_20 : decode YX4_keep.2.1 20 = .ok (.aload_n 3, 1) := by decide +kernel
theorem dX4_keep_21 : decode YX4_keep.2.1 21 = .ok (.invokevirtual 41, 3) := by decide +kernel
theorem dX4_keep_24 : decode YX4_keep.2.1 24 = .ok (.aload_n 0, 1) := by decide +kernel
theorem dX4_keep_25 : decode YX4_keep.2.1 25 = .ok (.iconst 1, 1) := by decide +kernel
theorem dX4_keep_26 : decode YX4_keep.2.1 26 = .ok (.putfield 30, 3) := by decide +kernel
theorem dX4_keep_29 : decode YX4_keep.2.1 29 = .ok (.return_, 1) := by decide +kernel
theorem dX6_choose_0 : decode YX6_choose.2.1 0 = .ok (.iconst 0, 1) := by decide +kernel
theorem dX6_choose_1 : decode YX6_choose.2.1 1 = .ok (.istore_n 3, 1) := by decide +kernel
theorem dX6_choose_2 : decode YX6_choose.2.1 2 = .ok (.iconst 0, 1) := by decide +kernel
theorem dX6_choose_3 : decode YX6_choose.2.1 3 = .ok (.istore 4, 2) := by decide +kernel
theorem dX6_choose_5 : decode YX6_choose.2.1 5 = .ok (.iload 4, 2) := by decide +kernel
theorem dX6_choose_7 : decode YX6_choose.2.1 7 = .ok (.aload_n 1, 1) := by decide +kernel
theorem dX6_choose_8 : decode YX6_choose.2.1 8 = .ok (.invokevirtual 31, 3) := by decide +kernel
theorem dX6_choose_11 : decode YX6_choose.2.1 11 = .ok (.if_icmp .ge 25, 3) := by decide +kernel
theorem dX6_choose_14 : decode YX6_choose.2.1 14 = .ok (.aload_n 2, 1) := by decide +kernel
theorem dX6_choose_15 : decode YX6_choose.2.1 15 = .ok (.iload 4, 2) := by decide +kernel
theorem dX6_choose_17 : decode YX6_choose.2.1 17 = .ok (.invokevirtual 37, 3) := by decide +kernel
theorem dX6_choose_20 : decode YX6_choose.2.1 20 = .ok (.ifCond .eq 10, 3) := by decide +kernel
theorem dX6_choose_23 : decode YX6_choose.2.1 23 = .ok (.iload_n 3, 1) := by decide +kernel
theorem dX6_choose_24 : decode YX6_choose.2.1 24 = .ok (.iconst 1, 1) := by decide +kernel
theorem dX6_choose_25 : decode YX6_choose.2.1 25 = .ok (.iload 4, 2) := by decide +kernel
theorem dX6_choose_27 : decode YX6_choose.2.1 27 = .ok (.ishl, 1) := by decide +kernel
theorem dX6_choose_28 : decode YX6_choose.2.1 28 = .ok (.ior, 1) := by decide +kernel
theorem dX6_choose_29 : decode YX6_choose.2.1 29 = .ok (.istore_n 3, 1) := by decide +kernel
theorem dX6_choose_30 : decode YX6_choose.2.1 30 = .ok (.iinc 4 1, 3) := by decide +kernel
theorem dX6_choose_33 : decode YX6_choose.2.1 33 = .ok (.goto (-28), 3) := by decide +kernel
theorem dX6_choose_36 : decode YX6_choose.2.1 36 = .ok (.aload_n 0, 1) := by decide +kernel
theorem dX6_choose_37 : decode YX6_choose.2.1 37 = .ok (.iconst (-1), 1) := by decide +kernel
theorem dX6_choose_38 : decode YX6_choose.2.1 38 = .ok (.putfield 18, 3) := by decide +kernel
theorem dX6_choose_41 : decode YX6_choose.2.1 41 = .ok (.aload_n 0, 1) := by decide +kernel
theorem dX6_choose_42 : decode YX6_choose.2.1 42 = .ok (.iconst (-1), 1) := by decide +kernel
theorem dX6_choose_43 : decode YX6_choose.2.1 43 = .ok (.putfield 22, 3) := by decide +kernel
theorem dX6_choose_46 : decode YX6_choose.2.1 46 = .ok (.aload_n 0, 1) := by decide +kernel
theorem dX6_choose_47 : decode YX6_choose.2.1 47 = .ok (.aload_n 1, 1) := by decide +kernel
theorem dX6_choose_48 : decode YX6_choose.2.1 48 = .ok (.aload_n 2, 1) := by decide +kernel
theorem dX6_choose_49 : decode YX6_choose.2.1 49 = .ok (.iconst 0, 1) := by decide +kernel
theorem dX6_choose_50 : decode YX6_choose.2.1 50 = .ok (.iload_n 3, 1) := by decide +kernel
theorem dX6_choose_51 : decode YX6_choose.2.1 51 = .ok (.iconst 0, 1) := by decide +kernel
theorem dX6_choose_52 : decode YX6_choose.2.1 52 = .ok (.iconst 0, 1) := by decide +kernel
theorem dX6_choose_53 : decode YX6_choose.2.1 53 = .ok (.invokevirtual 43, 3) := by decide +kernel
theorem dX6_choose_56 : decode YX6_choose.2.1 56 = .ok (.return_, 1) := by decide +kernel
theorem dX6_pairs_0 : decode YX6_pairs.2.1 0 = .ok (.aload_n 0, 1) := by decide +kernel
theorem dX6_pairs_1 : decode YX6_pairs.2.1 1 = .ok (.getfield 18, 3) := by decide +kernel
theorem dX6_pairs_4 : decode YX6_pairs.2.1 4 = .ok (.ireturn, 1) := by decide +kernel
theorem dX6_tryFrom_0 : decode YX6_tryFrom.2.1 0 = .ok (.iload_n 3, 1) := by decide +kernel
theorem dX6_tryFrom_1 : decode YX6_tryFrom.2.1 1 = .ok (.bipush 6, 2) := by decide +kernel
theorem dX6_tryFrom_3 : decode YX6_tryFrom.2.1 3 = .ok (.if_icmp .lt 12, 3) := by decide +kernel
theorem dX6_tryFrom_6 : decode YX6_tryFrom.2.1 6 = .ok (.aload_n 0, 1) := by decide +kernel
theorem dX6_tryFrom_7 : decode YX6_tryFrom.2.1 7 = .ok (.iload 5, 2) := by decide +kernel
theorem dX6_tryFrom_9 : decode YX6_tryFrom.2.1 9 = .ok (.iload 6, 2) := by decide +kernel
theorem dX6_tryFrom_11 : decode YX6_tryFrom.2.1 11 = .ok (.invokevirtual 47, 3) := by decide +kernel
theorem dX6_tryFrom_14 : decode YX6_tryFrom.2.1 14 = .ok (.return_, 1) := by decide +kernel
theorem dX6_tryFrom_15 : decode YX6_tryFrom.2.1 15 = .ok (.aload_n 2, 1) := by decide +kernel
theorem dX6_tryFrom_16 : decode YX6_tryFrom.2.1 16 = .ok (.iload_n 3, 1) := by decide +kernel
theorem dX6_tryFrom_17 : decode YX6_tryFrom.2.1 17 = .ok (.invokevirtual 51, 3) := by decide +kernel
theorem dX6_tryFrom_20 : decode YX6_tryFrom.2.1 20 = .ok (.ifCond .le 99, 3) := by decide +kernel
theorem dX6_tryFrom_23 : decode YX6_tryFrom.2.1 23 = .ok (.aload_n 2, 1) := by decide +kernel
theorem dX6_tryFrom_24 : decode YX6_tryFrom.2.1 24 = .ok (.iload_n 3, 1) := by decide +kernel
theorem dX6_tryFrom_25 : decode YX6_tryFrom.2.1 25 = .ok (.invokevirtual 55, 3) := by decide +kernel
theorem dX6_tryFrom_28 : decode YX6_tryFrom.2.1 28 = .ok (.ifCond .ne 91, 3) := by decide +kernel
theorem dX6_tryFrom_31 : decode YX6_tryFrom.2.1 31 = .ok (.iconst 0, 1) := by decide +kernel
theorem dX6_tryFrom_32 : decode YX6_tryFrom.2.1 32 = .ok (.istore 7, 2) := by decide +kernel
theorem dX6_tryFrom_34 : decode YX6_tryFrom.2.1 34 = .ok (.iload 7, 2) := by decide +kernel
theorem dX6_tryFrom_36 : decode YX6_tryFrom.2.1 36 = .ok (.bipush 6, 2) := by decide +kernel
theorem dX6_tryFrom_38 : decode YX6_tryFrom.2.1 38 = .ok (.if_icmp .ge 81, 3) := by decide +kernel
theorem dX6_tryFrom_41 : decode YX6_tryFrom.2.1 41 = .ok (.iload 4, 2) := by decide +kernel
theorem dX6_tryFrom_43 : decode YX6_tryFrom.2.1 43 = .ok (.iload 7, 2) := by decide +kernel
theorem dX6_tryFrom_45 : decode YX6_tryFrom.2.1 45 = .ok (.invokestatic 58, 3) := by decide +kernel
theorem dX6_tryFrom_48 : decode YX6_tryFrom.2.1 48 = .ok (.ifCond .eq 21, 3) := by decide +kernel
theorem dX6_tryFrom_51 : decode YX6_tryFrom.2.1 51 = .ok (.aload_n 1, 1) := by decide +kernel
theorem dX6_tryFrom_52 : decode YX6_tryFrom.2.1 52 = .ok (.aload_n 2, 1) := by decide +kernel
theorem dX6_tryFrom_53 : decode YX6_tryFrom.2.1 53 = .ok (.iload 7, 2) := by decide +kernel
theorem dX6_tryFrom_55 : decode YX6_tryFrom.2.1 55 = .ok (.invokevirtual 62, 3) := by decide +kernel
theorem dX6_tryFrom_58 : decode YX6_tryFrom.2.1 58 = .ok (.aload_n 2, 1) := by decide +kernel
theorem dX6_tryFrom_59 : decode YX6_tryFrom.2.1 59 = .ok (.iload_n 3, 1) := by decide +kernel
theorem dX6_tryFrom_60 : decode YX6_tryFrom.2.1 60 = .ok (.invokevirtual 62, 3) := by decide +kernel
theorem dX6_tryFrom_63 : decode YX6_tryFrom.2.1 63 = .ok (.invokevirtual 65, 3) := by decide +kernel
theorem dX6_tryFrom_66 : decode YX6_tryFrom.2.1 66 = .ok (.goto 4, 3) := by decide +kernel
theorem dX6_tryFrom_69 : decode YX6_tryFrom.2.1 69 = .ok (.iconst (-1), 1) := by decide +kernel
theorem dX6_tryFrom_70 : decode YX6_tryFrom.2.1 70 = .ok (.istore 8, 2) := by decide +kernel
theorem dX6_tryFrom_72 : decode YX6_tryFrom.2.1 72 = .ok (.iload 8, 2) := by decide +kernel
theorem dX6_tryFrom_74 : decode YX6_tryFrom.2.1 74 = .ok (.iconst (-1), 1) := by decide +kernel
theorem dX6_tryFrom_75 : decode YX6_tryFrom.2.1 75 = .ok (.if_icmp .eq 38, 3) := by decide +kernel
theorem dX6_tryFrom_78 : decode YX6_tryFrom.2.1 78 = .ok (.aload_n 0, 1) := by decide +kernel
theorem dX6_tryFrom_79 : decode YX6_tryFrom.2.1 79 = .ok (.getfield 9, 3) := by decide +kernel
theorem dX6_tryFrom_82 : decode YX6_tryFrom.2.1 82 = .ok (.iload_n 3, 1) := by decide +kernel
theorem dX6_tryFrom_83 : decode YX6_tryFrom.2.1 83 = .ok (.iload 7, 2) := by decide +kernel
theorem dX6_tryFrom_85 : decode YX6_tryFrom.2.1 85 = .ok (.iastore, 1) := by decide +kernel
theorem dX6_tryFrom_86 : decode YX6_tryFrom.2.1 86 = .ok (.aload_n 0, 1) := by decide +kernel
theorem dX6_tryFrom_87 : decode YX6_tryFrom.2.1 87 = .ok (.aload_n 1, 1) := by decide +kernel
theorem dX6_tryFrom_88 : decode YX6_tryFrom.2.1 88 = .ok (.aload_n 2, 1) := by decide +kernel
theorem dX6_tryFrom_89 : decode YX6_tryFrom.2.1 89 = .ok (.iload_n 3, 1) := by decide +kernel
theorem dX6_tryFrom_90 : decode YX6_tryFrom.2.1 90 = .ok (.iconst 1, 1) := by decide +kernel
theorem dX6_tryFrom_91 : decode YX6_tryFrom.2.1 91 = .ok (.iadd, 1) := by decide +kernel
theorem dX6_tryFrom_92 : decode YX6_tryFrom.2.1 92 = .ok (.iload 4, 2) := by decide +kernel
theorem dX6_tryFrom_94 : decode YX6_tryFrom.2.1 94 = .ok (.iconst 1, 1) := by decide +kernel
theorem dX6_tryFrom_95 : decode YX6_tryFrom.2.1 95 = .ok (.iload 7, 2) := by decide +kernel
theorem dX6_tryFrom_97 : decode YX6_tryFrom.2.1 97 = .ok (.ishl, 1) := by decide +kernel
theorem dX6_tryFrom_98 : decode YX6_tryFrom.2.1 98 = .ok (.iconst (-1), 1) := by decide +kernel
theorem dX6_tryFrom_99 : decode YX6_tryFrom.2.1 99 = .ok (.ixor, 1) := by decide +kernel
theorem dX6_tryFrom_100 : decode YX6_tryFrom.2.1 100 = .ok (.iand, 1) := by decide +kernel
theorem dX6_tryFrom_101 : decode YX6_tryFrom.2.1 101 = .ok (.iload 5, 2) := by decide +kernel
theorem dX6_tryFrom_103 : decode YX6_tryFrom.2.1 103 = .ok (.iconst 1, 1) := by decide +kernel
theorem dX6_tryFrom_104 : decode YX6_tryFrom.2.1 104 = .ok (.iadd, 1) := by decide +kernel
theorem dX6_tryFrom_105 : decode YX6_tryFrom.2.1 105 = .ok (.iload 6, 2) := by decide +kernel
theorem dX6_tryFrom_107 : decode YX6_tryFrom.2.1 107 = .ok (.iload 8, 2) := by decide +kernel
theorem dX6_tryFrom_109 : decode YX6_tryFrom.2.1 109 = .ok (.iadd, 1) := by decide +kernel
theorem dX6_tryFrom_110 : decode YX6_tryFrom.2.1 110 = .ok (.invokevirtual 43, 3) := by decide +kernel
theorem dX6_tryFrom_113 : decode YX6_tryFrom.2.1 113 = .ok (.iinc 7 1, 3) := by decide +kernel
theorem dX6_tryFrom_116 : decode YX6_tryFrom.2.1 116 = .ok (.goto (-82), 3) := by decide +kernel
theorem dX6_tryFrom_119 : decode YX6_tryFrom.2.1 119 = .ok (.aload_n 0, 1) := by decide +kernel
theorem dX6_tryFrom_120 : decode YX6_tryFrom.2.1 120 = .ok (.getfield 9, 3) := by decide +kernel
theorem dX6_tryFrom_123 : decode YX6_tryFrom.2.1 123 = .ok (.iload_n 3, 1) := by decide +kernel
theorem dX6_tryFrom_124 : decode YX6_tryFrom.2.1 124 = .ok (.iconst (-1), 1) := by decide +kernel
theorem dX6_tryFrom_125 : decode YX6_tryFrom.2.1 125 = .ok (.iastore, 1) := by decide +kernel
theorem dX6_tryFrom_126 : decode YX6_tryFrom.2.1 126 = .ok (.aload_n 0, 1) := by decide +kernel
theorem dX6_tryFrom_127 : decode YX6_tryFrom.2.1 127 = .ok (.aload_n 1, 1) := by decide +kernel
theorem dX6_tryFrom_128 : decode YX6_tryFrom.2.1 128 = .ok (.aload_n 2, 1) := by decide +kernel
theorem dX6_tryFrom_129 : decode YX6_tryFrom.2.1 129 = .ok (.iload_n 3, 1) := by decide +kernel
theorem dX6_tryFrom_130 : decode YX6_tryFrom.2.1 130 = .ok (.iconst 1, 1) := by decide +kernel
theorem dX6_tryFrom_131 : decode YX6_tryFrom.2.1 131 = .ok (.iadd, 1) := by decide +kernel
theorem dX6_tryFrom_132 : decode YX6_tryFrom.2.1 132 = .ok (.iload 4, 2) := by decide +kernel
theorem dX6_tryFrom_134 : decode YX6_tryFrom.2.1 134 = .ok (.iload 5, 2) := by decide +kernel
theorem dX6_tryFrom_136 : decode YX6_tryFrom.2.1 136 = .ok (.iload 6, 2) := by decide +kernel
theorem dX6_tryFrom_138 : decode YX6_tryFrom.2.1 138 = .ok (.invokevirtual 43, 3) := by decide +kernel
theorem dX6_tryFrom_141 : decode YX6_tryFrom.2.1 141 = .ok (.return_, 1) := by decide +kernel
theorem LDX3_dayIn_0 (Γ : zG) (M : zM) (a1 : Int32) (h : a1 = 0) : zK Γ 1 YX3_dayIn [.ref (zad Γ 47), .int a1] M (fun v N => v = some (.ref (zad Γ 49)) ∧ N = M) := by
  subst h
  refine zK_of (by decide) (Nat.le_of_ble_eq_true rfl) ?_
  refine zj_loc [0, 1] rfl ?_
  refine zj_iload_n 1 (pc' := 1) dX3_dayIn_0 rfl rfl rfl ?_
  refine zj_if_lt (tgt := 19) (pc' := 4) dX3_dayIn_1 rfl (by decide) (fun c => absurd c (by decide)) (fun _ => ?_)
  refine zj_iload_n 1 (pc' := 5) dX3_dayIn_4 rfl rfl rfl ?_
  refine zj_bipush (pc' := 7) dX3_dayIn_5 rfl kbipush_8 ?_
  refine zj_icmp_ge (tgt := 19) (pc' := 10) dX3_dayIn_7 rfl (by decide) (fun c => absurd c (by decide)) (fun _ => ?_)
  refine zj_aload_n 0 (pc' := 11) dX3_dayIn_10 rfl rfl rfl ?_
  refine zj_getR (pc' := 14) (j := 48) dX3_dayIn_11 rfl flX3_11 sh47 rfl ?_
  refine zj_iload_n 1 (pc' := 15) dX3_dayIn_14 rfl rfl rfl ?_
  refine zj_aald4 (pc' := 16) (q := 49) dX3_dayIn_15 rfl sh48 (zin_in (by decide)) (by decide) ?_
  refine zj_goto (tgt := 20) dX3_dayIn_16 (by decide) ?_
  exact zj_aret dX3_dayIn_20 rfl (Or.inl ⟨_, rfl⟩) (Or.inr ⟨_, rfl⟩) ⟨rfl, rfl⟩
theorem LDX3_dayIn_1 (Γ : zG) (M : zM) (a1 : Int32) (h : a1 = 1) : zK Γ 1 YX3_dayIn [.ref (zad Γ 47), .int a1] M (fun v N => v = some (.ref (zad Γ 59)) ∧ N = M) := by
  subst h
  refine zK_of (by decide) (Nat.le_of_ble_eq_true rfl) ?_
  refine zj_loc [0, 1] rfl ?_
  refine zj_iload_n 1 (pc' := 1) dX3_dayIn_0 rfl rfl rfl ?_
  refine zj_if_lt (tgt := 19) (pc' := 4) dX3_dayIn_1 rfl (by decide) (fun c => absurd c (by decide)) (fun _ => ?_)
  refine zj_iload_n 1 (pc' := 5) dX3_dayIn_4 rfl rfl rfl ?_
  refine zj_bipush (pc' := 7) dX3_dayIn_5 rfl kbipush_8 ?_
  refine zj_icmp_ge (tgt := 19) (pc' := 10) dX3_dayIn_7 rfl (by decide) (fun c => absurd c (by decide)) (fun _ => ?_)
  refine zj_aload_n 0 (pc' := 11) dX3_dayIn_10 rfl rfl rfl ?_
  refine zj_getR (pc' := 14) (j := 48) dX3_dayIn_11 rfl flX3_11 sh47 rfl ?_
  refine zj_iload_n 1 (pc' := 15) dX3_dayIn_14 rfl rfl rfl ?_
  refine zj_aald4 (pc' := 16) (q := 59) dX3_dayIn_15 rfl sh48 (zin_in (by decide)) (by decide) ?_
  refine zj_goto (tgt := 20) dX3_dayIn_16 (by decide) ?_
  exact zj_aret dX3_dayIn_20 rfl (Or.inl ⟨_, rfl⟩) (Or.inr ⟨_, rfl⟩) ⟨rfl, rfl⟩
theorem LDX3_dayIn_2 (Γ : zG) (M : zM) (a1 : Int32) (h : a1 = 2) : zK Γ 1 YX3_dayIn [.ref (zad Γ 47), .int a1] M (fun v N => v = some (.ref (zad Γ 69)) ∧ N = M) := by
  subst h
  refine zK_of (by decide) (Nat.le_of_ble_eq_true rfl) ?_
  refine zj_loc [0, 1] rfl ?_
  refine zj_iload_n 1 (pc' := 1) dX3_dayIn_0 rfl rfl rfl ?_
  refine zj_if_lt (tgt := 19) (pc' := 4) dX3_dayIn_1 rfl (by decide) (fun c => absurd c (by decide)) (fun _ => ?_)
  refine zj_iload_n 1 (pc' := 5) dX3_dayIn_4 rfl rfl rfl ?_
  refine zj_bipush (pc' := 7) dX3_dayIn_5 rfl kbipush_8 ?_
  refine zj_icmp_ge (tgt := 19) (pc' := 10) dX3_dayIn_7 rfl (by decide) (fun c => absurd c (by decide)) (fun _ => ?_)
  refine zj_aload_n 0 (pc' := 11) dX3_dayIn_10 rfl rfl rfl ?_
  refine zj_getR (pc' := 14) (j := 48) dX3_dayIn_11 rfl flX3_11 sh47 rfl ?_
  refine zj_iload_n 1 (pc' := 15) dX3_dayIn_14 rfl rfl rfl ?_
  refine zj_aald4 (pc' := 16) (q := 69) dX3_dayIn_15 rfl sh48 (zin_in (by decide)) (by decide) ?_
  refine zj_goto (tgt := 20) dX3_dayIn_16 (by decide) ?_
  exact zj_aret dX3_dayIn_20 rfl (Or.inl ⟨_, rfl⟩) (Or.inr ⟨_, rfl⟩) ⟨rfl, rfl⟩
theorem LDX3_dayIn_3 (Γ : zG) (M : zM) (a1 : Int32) (h : a1 = 3) : zK Γ 1 YX3_dayIn [.ref (zad Γ 47), .int a1] M (fun v N => v = some (.ref (zad Γ 79)) ∧ N = M) := by
  subst h
  refine zK_of (by decide) (Nat.le_of_ble_eq_true rfl) ?_
  refine zj_loc [0, 1] rfl ?_
  refine zj_iload_n 1 (pc' := 1) dX3_dayIn_0 rfl rfl rfl ?_
  refine zj_if_lt (tgt := 19) (pc' := 4) dX3_dayIn_1 rfl (by decide) (fun c => absurd c (by decide)) (fun _ => ?_)
  refine zj_iload_n 1 (pc' := 5) dX3_dayIn_4 rfl rfl rfl ?_
  refine zj_bipush (pc' := 7) dX3_dayIn_5 rfl kbipush_8 ?_
  refine zj_icmp_ge (tgt := 19) (pc' := 10) dX3_dayIn_7 rfl (by decide) (fun c => absurd c (by decide)) (fun _ => ?_)
  refine zj_aload_n 0 (pc' := 11) dX3_dayIn_10 rfl rfl rfl ?_
  refine zj_getR (pc' := 14) (j := 48) dX3_dayIn_11 rfl flX3_11 sh47 rfl ?_
  refine zj_iload_n 1 (pc' := 15) dX3_dayIn_14 rfl rfl rfl ?_
  refine zj_aald4 (pc' := 16) (q := 79) dX3_dayIn_15 rfl sh48 (zin_in (by decide)) (by decide) ?_
  refine zj_goto (tgt := 20) dX3_dayIn_16 (by decide) ?_
  exact zj_aret dX3_dayIn_20 rfl (Or.inl ⟨_, rfl⟩) (Or.inr ⟨_, rfl⟩) ⟨rfl, rfl⟩
theorem LDX3_dayIn_4 (Γ : zG) (M : zM) (a1 : Int32) (h : a1 = 4) : zK Γ 1 YX3_dayIn [.ref (zad Γ 47), .int a1] M (fun v N => v = some (.ref (zad Γ 89)) ∧ N = M) := by
  subst h
  refine zK_of (by decide) (Nat.le_of_ble_eq_true rfl) ?_
  refine zj_loc [0, 1] rfl ?_
  refine zj_iload_n 1 (pc' := 1) dX3_dayIn_0 rfl rfl rfl ?_
  refine zj_if_lt (tgt := 19) (pc' := 4) dX3_dayIn_1 rfl (by decide) (fun c => absurd c (by decide)) (fun _ => ?_)
  refine zj_iload_n 1 (pc' := 5) dX3_dayIn_4 rfl rfl rfl ?_
  refine zj_bipush (pc' := 7) dX3_dayIn_5 rfl kbipush_8 ?_
  refine zj_icmp_ge (tgt := 19) (pc' := 10) dX3_dayIn_7 rfl (by decide) (fun c => absurd c (by decide)) (fun _ => ?_)
  refine zj_aload_n 0 (pc' := 11) dX3_dayIn_10 rfl rfl rfl ?_
  refine zj_getR (pc' := 14) (j := 48) dX3_dayIn_11 rfl flX3_11 sh47 rfl ?_
  refine zj_iload_n 1 (pc' := 15) dX3_dayIn_14 rfl rfl rfl ?_
  refine zj_aald4 (pc' := 16) (q := 89) dX3_dayIn_15 rfl sh48 (zin_in (by decide)) (by decide) ?_
  refine zj_goto (tgt := 20) dX3_dayIn_16 (by decide) ?_
  exact zj_aret dX3_dayIn_20 rfl (Or.inl ⟨_, rfl⟩) (Or.inr ⟨_, rfl⟩) ⟨rfl, rfl⟩
theorem LDX3_dayIn_5 (Γ : zG) (M : zM) (a1 : Int32) (h : a1 = 5) : zK Γ 1 YX3_dayIn [.ref (zad Γ 47), .int a1] M (fun v N => v = some (.ref (zad Γ 99)) ∧ N = M) := by
  subst h
  refine zK_of (by decide) (Nat.le_of_ble_eq_true rfl) ?_
  refine zj_loc [0, 1] rfl ?_
  refine zj_iload_n 1 (pc' := 1) dX3_dayIn_0 rfl rfl rfl ?_
  refine zj_if_lt (tgt := 19) (pc' := 4) dX3_dayIn_1 rfl (by decide) (fun c => absurd c (by decide)) (fun _ => ?_)
  refine zj_iload_n 1 (pc' := 5) dX3_dayIn_4 rfl rfl rfl ?_
  refine zj_bipush (pc' := 7) dX3_dayIn_5 rfl kbipush_8 ?_
  refine zj_icmp_ge (tgt := 19) (pc' := 10) dX3_dayIn_7 rfl (by decide) (fun c => absurd c (by decide)) (fun _ => ?_)
  refine zj_aload_n 0 (pc' := 11) dX3_dayIn_10 rfl rfl rfl ?_
  refine zj_getR (pc' := 14) (j := 48) dX3_dayIn_11 rfl flX3_11 sh47 rfl ?_
  refine zj_iload_n 1 (pc' := 15) dX3_dayIn_14 rfl rfl rfl ?_
  refine zj_aald4 (pc' := 16) (q := 99) dX3_dayIn_15 rfl sh48 (zin_in (by decide)) (by decide) ?_
  refine zj_goto (tgt := 20) dX3_dayIn_16 (by decide) ?_
  exact zj_aret dX3_dayIn_20 rfl (Or.inl ⟨_, rfl⟩) (Or.inr ⟨_, rfl⟩) ⟨rfl, rfl⟩
theorem LDX3_dayIn_6 (Γ : zG) (M : zM) (a1 : Int32) (h : a1 = 6) : zK Γ 1 YX3_dayIn [.ref (zad Γ 47), .int a1] M (fun v N => v = some (.ref (zad Γ 109)) ∧ N = M) := by
  subst h
  refine zK_of (by decide) (Nat.le_of_ble_eq_true rfl) ?_
  refine zj_loc [0, 1] rfl ?_
  refine zj_iload_n 1 (pc' := 1) dX3_dayIn_0 rfl rfl rfl ?_
  refine zj_if_lt (tgt := 19) (pc' := 4) dX3_dayIn_1 rfl (by decide) (fun c => absurd c (by decide)) (fun _ => ?_)
  refine zj_iload_n 1 (pc' := 5) dX3_dayIn_4 rfl rfl rfl ?_
  refine zj_bipush (pc' := 7) dX3_dayIn_5 rfl kbipush_8 ?_
  refine zj_icmp_ge (tgt := 19) (pc' := 10) dX3_dayIn_7 rfl (by decide) (fun c => absurd c (by decide)) (fun _ => ?_)
  refine zj_aload_n 0 (pc' := 11) dX3_dayIn_10 rfl rfl rfl ?_
  refine zj_getR (pc' := 14) (j := 48) dX3_dayIn_11 rfl flX3_11 sh47 rfl ?_
  refine zj_iload_n 1 (pc' := 15) dX3_dayIn_14 rfl rfl rfl ?_
  refine zj_aald4 (pc' := 16) (q := 109) dX3_dayIn_15 rfl sh48 (zin_in (by decide)) (by decide) ?_
  refine zj_goto (tgt := 20) dX3_dayIn_16 (by decide) ?_
  exact zj_aret dX3_dayIn_20 rfl (Or.inl ⟨_, rfl⟩) (Or.inr ⟨_, rfl⟩) ⟨rfl, rfl⟩
theorem LDX3_dayIn_7 (Γ : zG) (M : zM) (a1 : Int32) (h : a1 = 7) : zK Γ 1 YX3_dayIn [.ref (zad Γ 47), .int a1] M (fun v N => v = some (.ref (zad Γ 119)) ∧ N = M) := by
  subst h
  refine zK_of (by decide) (Nat.le_of_ble_eq_true rfl) ?_
  refine zj_loc [0, 1] rfl ?_
  refine zj_iload_n 1 (pc' := 1) dX3_dayIn_0 rfl rfl rfl ?_
  refine zj_if_lt (tgt := 19) (pc' := 4) dX3_dayIn_1 rfl (by decide) (fun c => absurd c (by decide)) (fun _ => ?_)
  refine zj_iload_n 1 (pc' := 5) dX3_dayIn_4 rfl rfl rfl ?_
  refine zj_bipush (pc' := 7) dX3_dayIn_5 rfl kbipush_8 ?_
  refine zj_icmp_ge (tgt := 19) (pc' := 10) dX3_dayIn_7 rfl (by decide) (fun c => absurd c (by decide)) (fun _ => ?_)
  refine zj_aload_n 0 (pc' := 11) dX3_dayIn_10 rfl rfl rfl ?_
  refine zj_getR (pc' := 14) (j := 48) dX3_dayIn_11 rfl flX3_11 sh47 rfl ?_
  refine zj_iload_n 1 (pc' := 15) dX3_dayIn_14 rfl rfl rfl ?_
  refine zj_aald4 (pc' := 16) (q := 119) dX3_dayIn_15 rfl sh48 (zin_in (by decide)) (by decide) ?_
  refine zj_goto (tgt := 20) dX3_dayIn_16 (by decide) ?_
  exact zj_aret dX3_dayIn_20 rfl (Or.inl ⟨_, rfl⟩) (Or.inr ⟨_, rfl⟩) ⟨rfl, rfl⟩
theorem LDX3_dayIn_n (Γ : zG) (M : zM) (a1 : Int32) (h0 : ¬ a1 = 0) (h1 : ¬ a1 = 1) (h2 : ¬ a1 = 2) (h3 : ¬ a1 = 3) (h4 : ¬ a1 = 4) (h5 : ¬ a1 = 5) (h6 : ¬ a1 = 6) (h7 : ¬ a1 = 7) : zK Γ 1 YX3_dayIn [.ref (zad Γ 47), .int a1] M (fun v N => v = some .null ∧ N = M) := by
  refine zK_of (by decide) (Nat.le_of_ble_eq_true rfl) ?_
  refine zj_loc [0, 1] rfl ?_
  refine zj_iload_n 1 (pc' := 1) dX3_dayIn_0 rfl rfl rfl ?_
  refine zj_if_lt (tgt := 19) (pc' := 4) dX3_dayIn_1 rfl (by decide) (fun c => ?_) (fun c => ?_)
  · refine zj_null (pc' := 20) dX3_dayIn_19 rfl ?_
    exact zj_aret dX3_dayIn_20 rfl (Or.inl ⟨_, rfl⟩) (Or.inl rfl) ⟨rfl, rfl⟩
  · refine zj_iload_n 1 (pc' := 5) dX3_dayIn_4 rfl rfl rfl ?_
    refine zj_bipush (pc' := 7) dX3_dayIn_5 rfl kbipush_8 ?_
    refine zj_icmp_ge (tgt := 19) (pc' := 10) dX3_dayIn_7 rfl (by decide) (fun c2 => ?_) (fun c2 => ?_)
    · refine zj_null (pc' := 20) dX3_dayIn_19 rfl ?_
      exact zj_aret dX3_dayIn_20 rfl (Or.inl ⟨_, rfl⟩) (Or.inl rfl) ⟨rfl, rfl⟩
    · exfalso
      have q0 := Int32.not_lt.mp c
      have q1 := Int32.not_le.mp c2
      rw [Int32.le_iff_toInt_le] at q0
      rw [Int32.lt_iff_toInt_lt] at q1
      have z0 : (0 : Int32).toInt = 0 := by decide
      have z1 : (8 : Int32).toInt = 8 := by decide
      have p0 := zne (k := 0) h0 (by decide)
      have p1 := zne (k := 1) h1 (by decide)
      have p2 := zne (k := 2) h2 (by decide)
      have p3 := zne (k := 3) h3 (by decide)
      have p4 := zne (k := 4) h4 (by decide)
      have p5 := zne (k := 5) h5 (by decide)
      have p6 := zne (k := 6) h6 (by decide)
      have p7 := zne (k := 7) h7 (by decide)
      omega
theorem LDX11_imageIn_0 (Γ : zG) (M : zM) (a1 : Int32) (h : a1 = 0) : zK Γ 1 YX11_imageIn [.ref (zad Γ 0), .int a1] M (fun v N => v = some (.ref (zad Γ 130)) ∧ N = M) := by
  subst h
  refine zK_of (by decide) (Nat.le_of_ble_eq_true rfl) ?_
  refine zj_loc [0, 1] rfl ?_
  refine zj_iload_n 1 (pc' := 1) dX11_imageIn_0 rfl rfl rfl ?_
  refine zj_if_lt (tgt := 18) (pc' := 4) dX11_imageIn_1 rfl (by decide) (fun c => absurd c (by decide)) (fun _ => ?_)
  refine zj_iload_n 1 (pc' := 5) dX11_imageIn_4 rfl rfl rfl ?_
  refine zj_iconst (pc' := 6) dX11_imageIn_5 rfl kiconst_2 ?_
  refine zj_icmp_ge (tgt := 18) (pc' := 9) dX11_imageIn_6 rfl (by decide) (fun c => absurd c (by decide)) (fun _ => ?_)
  refine zj_aload_n 0 (pc' := 10) dX11_imageIn_9 rfl rfl rfl ?_
  refine zj_getR (pc' := 13) (j := 129) dX11_imageIn_10 rfl flX11_64 sh0 rfl ?_
  refine zj_iload_n 1 (pc' := 14) dX11_imageIn_13 rfl rfl rfl ?_
  refine zj_aald5 (pc' := 15) (q := 130) dX11_imageIn_14 rfl sh129 (zin_in (by decide)) (by decide) ?_
  refine zj_goto (tgt := 19) dX11_imageIn_15 (by decide) ?_
  exact zj_aret dX11_imageIn_19 rfl (Or.inl ⟨_, rfl⟩) (Or.inr ⟨_, rfl⟩) ⟨rfl, rfl⟩
theorem LDX11_imageIn_1 (Γ : zG) (M : zM) (a1 : Int32) (h : a1 = 1) : zK Γ 1 YX11_imageIn [.ref (zad Γ 0), .int a1] M (fun v N => v = some (.ref (zad Γ 152)) ∧ N = M) := by
  subst h
  refine zK_of (by decide) (Nat.le_of_ble_eq_true rfl) ?_
  refine zj_loc [0, 1] rfl ?_
  refine zj_iload_n 1 (pc' := 1) dX11_imageIn_0 rfl rfl rfl ?_
  refine zj_if_lt (tgt := 18) (pc' := 4) dX11_imageIn_1 rfl (by decide) (fun c => absurd c (by decide)) (fun _ => ?_)
  refine zj_iload_n 1 (pc' := 5) dX11_imageIn_4 rfl rfl rfl ?_
  refine zj_iconst (pc' := 6) dX11_imageIn_5 rfl kiconst_2 ?_
  refine zj_icmp_ge (tgt := 18) (pc' := 9) dX11_imageIn_6 rfl (by decide) (fun c => absurd c (by decide)) (fun _ => ?_)
  refine zj_aload_n 0 (pc' := 10) dX11_imageIn_9 rfl rfl rfl ?_
  refine zj_getR (pc' := 13) (j := 129) dX11_imageIn_10 rfl flX11_64 sh0 rfl ?_
  refine zj_iload_n 1 (pc' := 14) dX11_imageIn_13 rfl rfl rfl ?_
  refine zj_aald5 (pc' := 15) (q := 152) dX11_imageIn_14 rfl sh129 (zin_in (by decide)) (by decide) ?_
  refine zj_goto (tgt := 19) dX11_imageIn_15 (by decide) ?_
  exact zj_aret dX11_imageIn_19 rfl (Or.inl ⟨_, rfl⟩) (Or.inr ⟨_, rfl⟩) ⟨rfl, rfl⟩
theorem LDX11_imageIn_n (Γ : zG) (M : zM) (a1 : Int32) (h0 : ¬ a1 = 0) (h1 : ¬ a1 = 1) : zK Γ 1 YX11_imageIn [.ref (zad Γ 0), .int a1] M (fun v N => v = some .null ∧ N = M) := by
  refine zK_of (by decide) (Nat.le_of_ble_eq_true rfl) ?_
  refine zj_loc [0, 1] rfl ?_
  refine zj_iload_n 1 (pc' := 1) dX11_imageIn_0 rfl rfl rfl ?_
  refine zj_if_lt (tgt := 18) (pc' := 4) dX11_imageIn_1 rfl (by decide) (fun c => ?_) (fun c => ?_)
  · refine zj_null (pc' := 19) dX11_imageIn_18 rfl ?_
    exact zj_aret dX11_imageIn_19 rfl (Or.inl ⟨_, rfl⟩) (Or.inl rfl) ⟨rfl, rfl⟩
  · refine zj_iload_n 1 (pc' := 5) dX11_imageIn_4 rfl rfl rfl ?_
    refine zj_iconst (pc' := 6) dX11_imageIn_5 rfl kiconst_2 ?_
    refine zj_icmp_ge (tgt := 18) (pc' := 9) dX11_imageIn_6 rfl (by decide) (fun c2 => ?_) (fun c2 => ?_)
    · refine zj_null (pc' := 19) dX11_imageIn_18 rfl ?_
      exact zj_aret dX11_imageIn_19 rfl (Or.inl ⟨_, rfl⟩) (Or.inl rfl) ⟨rfl, rfl⟩
    · exfalso
      have q0 := Int32.not_lt.mp c
      have q1 := Int32.not_le.mp c2
      rw [Int32.le_iff_toInt_le] at q0
      rw [Int32.lt_iff_toInt_lt] at q1
      have z0 : (0 : Int32).toInt = 0 := by decide
      have z1 : (2 : Int32).toInt = 2 := by decide
      have p0 := zne (k := 0) h0 (by decide)
      have p1 := zne (k := 1) h1 (by decide)
      omega
