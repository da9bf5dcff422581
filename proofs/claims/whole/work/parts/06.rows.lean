def YJ6_bitCount_0f7a4 : zY := (⟨"java/lang/Integer", "bitCount", "(I)I"⟩, prog_19_method_49_code, 1, (some .int))
def YJ6_lowestOneBit_0f7a4 : zY := (⟨"java/lang/Integer", "lowestOneBit", "(I)I"⟩, prog_19_method_46_code, 1, (some .int))
def YJ7_fill_53178 : zY := (⟨"java/util/Arrays", "fill", "([II)V"⟩, prog_29_method_103_code, 4, none)
def YX0_doLine : zY := (⟨"ProperFollow$Book", "doLine", "(LProperFollow$Plan;LProperFollow$Day;I)I"⟩, prog_2_method_8_code, 4, (some .int))
def YX0_goodLines : zY := (⟨"ProperFollow$Book", "goodLines", "()I"⟩, prog_2_method_2_code, 1, (some .int))
def YX0_judge : zY := (⟨"ProperFollow$Book", "judge", "(LProperFollow$Plan;LProperFollow$Day;)I"⟩, prog_2_method_7_code, 5, (some .int))
def YX0_readAct : zY := (⟨"ProperFollow$Book", "readAct", "(LProperFollow$Reader;LProperFollow$Plan;II)V"⟩, prog_2_method_6_code, 5, none)
def YX0_readFrom : zY := (⟨"ProperFollow$Book", "readFrom", "(LProperFollow$Reader;LProperFollow$Plan;)V"⟩, prog_2_method_4_code, 4, none)
def YX0_readLine : zY := (⟨"ProperFollow$Book", "readLine", "(LProperFollow$Reader;LProperFollow$Plan;)V"⟩, prog_2_method_5_code, 5, none)
def YX0_shifted : zY := (⟨"ProperFollow$Book", "shifted", "(II)I"⟩, prog_2_method_9_code, 2, (some .int))
def YX0_toldOf : zY := (⟨"ProperFollow$Book", "toldOf", "(I)I"⟩, prog_2_method_3_code, 2, (some .int))
def YX10_addNumber : zY := (⟨"ProperFollow$Tape", "addNumber", "(I)V"⟩, prog_12_method_4_code, 3, none)
def YX10_byteOf : zY := (⟨"ProperFollow$Tape", "byteOf", "(I)I"⟩, prog_12_method_7_code, 2, (some .int))
def YX10_clear : zY := (⟨"ProperFollow$Tape", "clear", "()V"⟩, prog_12_method_6_code, 1, none)
def YX10_hasRoom : zY := (⟨"ProperFollow$Tape", "hasRoom", "(I)Z"⟩, prog_12_method_3_code, 2, (some .boolean))
def YX10_length : zY := (⟨"ProperFollow$Tape", "length", "()I"⟩, prog_12_method_2_code, 1, (some .int))
def YX10_shorten : zY := (⟨"ProperFollow$Tape", "shorten", "(I)Z"⟩, prog_12_method_5_code, 2, (some .boolean))
def YX11_ask : zY := (⟨"ProperFollow", "ask", "()I"⟩, prog_1_method_22_code, 1, (some .int))
def YX11_bar : zY := (⟨"ProperFollow", "bar", "(II)I"⟩, prog_1_method_25_code, 3, (some .int))
def YX11_barred : zY := (⟨"ProperFollow", "barred", "()I"⟩, prog_1_method_26_code, 1, (some .int))
def YX11_bestQuestion : zY := (⟨"ProperFollow", "bestQuestion", "(I)I"⟩, prog_1_method_47_code, 7, (some .int))
def YX11_byteAt : zY := (⟨"ProperFollow", "byteAt", "(I)I"⟩, prog_1_method_32_code, 2, (some .int))
def YX11_corner : zY := (⟨"ProperFollow", "corner", "(II)I"⟩, prog_1_method_8_code, 3, (some .int))
def YX11_count : zY := (⟨"ProperFollow", "count", "(I)I"⟩, prog_1_method_41_code, 2, (some .int))
def YX11_cut : zY := (⟨"ProperFollow", "cut", "()I"⟩, prog_1_method_17_code, 1, (some .int))
def YX11_cutting : zY := (⟨"ProperFollow", "cutting", "()I"⟩, prog_1_method_18_code, 1, (some .int))
def YX11_end : zY := (⟨"ProperFollow", "end", "(I)Z"⟩, prog_1_method_3_code, 2, (some .boolean))
def YX11_fault : zY := (⟨"ProperFollow", "fault", "()I"⟩, prog_1_method_5_code, 1, (some .int))
def YX11_feed : zY := (⟨"ProperFollow", "feed", "(IIIII)I"⟩, prog_1_method_2_code, 6, (some .int))
def YX11_fits : zY := (⟨"ProperFollow", "fits", "()I"⟩, prog_1_method_21_code, 2, (some .int))
def YX11_hasBit : zY := (⟨"ProperFollow", "hasBit", "(II)Z"⟩, prog_1_method_49_code, 2, (some .boolean))
def YX11_hiredBy : zY := (⟨"ProperFollow", "hiredBy", "(I)I"⟩, prog_1_method_29_code, 2, (some .int))
def YX11_hiresFar : zY := (⟨"ProperFollow", "hiresFar", "()I"⟩, prog_1_method_28_code, 1, (some .int))
def YX11_meet : zY := (⟨"ProperFollow", "meet", "(II)I"⟩, prog_1_method_19_code, 4, (some .int))
def YX11_now : zY := (⟨"ProperFollow", "now", "(I)I"⟩, prog_1_method_9_code, 2, (some .int))
def YX11_odds : zY := (⟨"ProperFollow", "odds", "(III)I"⟩, prog_1_method_34_code, 6, (some .int))
def YX11_path : zY := (⟨"ProperFollow", "path", "(II)I"⟩, prog_1_method_23_code, 6, (some .int))
def YX11_pathAt : zY := (⟨"ProperFollow", "pathAt", "(I)I"⟩, prog_1_method_24_code, 2, (some .int))
def YX11_proper : zY := (⟨"ProperFollow", "proper", "(II)I"⟩, prog_1_method_20_code, 4, (some .int))
def YX11_ring : zY := (⟨"ProperFollow", "ring", "(I)I"⟩, prog_1_method_16_code, 2, (some .int))
def YX11_said : zY := (⟨"ProperFollow", "said", "(I)I"⟩, prog_1_method_38_code, 5, (some .int))
def YX11_sentence : zY := (⟨"ProperFollow", "sentence", "()I"⟩, prog_1_method_37_code, 1, (some .int))
def YX11_staysUnseen : zY := (⟨"ProperFollow", "staysUnseen", "(III)Z"⟩, prog_1_method_45_code, 7, (some .boolean))
def YX11_told : zY := (⟨"ProperFollow", "told", "(I)I"⟩, prog_1_method_36_code, 2, (some .int))
def YX11_town : zY := (⟨"ProperFollow", "town", "()I"⟩, prog_1_method_4_code, 2, (some .int))
def YX11_was : zY := (⟨"ProperFollow", "was", "(II)I"⟩, prog_1_method_7_code, 3, (some .int))
def YX11_whoFitsTape : zY := (⟨"ProperFollow", "whoFitsTape", "()I"⟩, prog_1_method_46_code, 5, (some .int))
def YX12_ask : zY := (⟨"ProperFollowModel", "ask", "()I"⟩, prog_14_method_80_code, 1, (some .int))
def YX12_back : zY := (⟨"ProperFollowModel", "back", "()V"⟩, prog_14_method_70_code, 2, none)
def YX12_bad : zY := (⟨"ProperFollowModel", "bad", "(I)Z"⟩, prog_14_method_19_code, 2, (some .boolean))
def YX12_bar : zY := (⟨"ProperFollowModel", "bar", "(II)I"⟩, prog_14_method_84_code, 5, (some .int))
def YX12_barred : zY := (⟨"ProperFollowModel", "barred", "()I"⟩, prog_14_method_85_code, 1, (some .int))
def YX12_behind : zY := (⟨"ProperFollowModel", "behind", "()Z"⟩, prog_14_method_111_code, 1, (some .boolean))
def YX12_binds : zY := (⟨"ProperFollowModel", "binds", "(III)V"⟩, prog_14_method_58_code, 4, none)
def YX12_bitOf : zY := (⟨"ProperFollowModel", "bitOf", "(II)Z"⟩, prog_14_method_8_code, 2, (some .boolean))
def YX12_bits : zY := (⟨"ProperFollowModel", "bits", "(I)I"⟩, prog_14_method_11_code, 3, (some .int))
def YX12_book : zY := (⟨"ProperFollowModel", "book", "(I)I"⟩, prog_14_method_104_code, 4, (some .int))
def YX12_bookLine : zY := (⟨"ProperFollowModel", "bookLine", "()Z"⟩, prog_14_method_102_code, 5, (some .boolean))
def YX12_byteAt : zY := (⟨"ProperFollowModel", "byteAt", "(I)I"⟩, prog_14_method_96_code, 2, (some .int))
def YX12_clears : zY := (⟨"ProperFollowModel", "clears", "()V"⟩, prog_14_method_14_code, 2, none)
def YX12_code : zY := (⟨"ProperFollowModel", "code", "(III)V"⟩, prog_14_method_106_code, 4, none)
def YX12_corner : zY := (⟨"ProperFollowModel", "corner", "(II)I"⟩, prog_14_method_51_code, 5, (some .int))
def YX12_couldBe : zY := (⟨"ProperFollowModel", "couldBe", "(II)I"⟩, prog_14_method_86_code, 5, (some .int))
def YX12_count : zY := (⟨"ProperFollowModel", "count", "(I)I"⟩, prog_14_method_118_code, 2, (some .int))
def YX12_cut : zY := (⟨"ProperFollowModel", "cut", "()I"⟩, prog_14_method_72_code, 2, (some .int))
def YX12_cutting : zY := (⟨"ProperFollowModel", "cutting", "()I"⟩, prog_14_method_73_code, 1, (some .int))
def YX12_does : zY := (⟨"ProperFollowModel", "does", "(IIII)I"⟩, prog_14_method_103_code, 6, (some .int))
def YX12_draw : zY := (⟨"ProperFollowModel", "draw", "(I)I"⟩, prog_14_method_97_code, 2, (some .int))
def YX12_drawPerson : zY := (⟨"ProperFollowModel", "drawPerson", "(I)V"⟩, prog_14_method_98_code, 5, none)
def YX12_drawn : zY := (⟨"ProperFollowModel", "drawn", "(II)I"⟩, prog_14_method_100_code, 3, (some .int))
def YX12_draws : zY := (⟨"ProperFollowModel", "draws", "(II)I"⟩, prog_14_method_99_code, 5, (some .int))
def YX12_drop : zY := (⟨"ProperFollowModel", "drop", "(I)I"⟩, prog_14_method_63_code, 2, (some .int))
def YX12_end : zY := (⟨"ProperFollowModel", "end", "(I)Z"⟩, prog_14_method_5_code, 2, (some .boolean))
def YX12_fault : zY := (⟨"ProperFollowModel", "fault", "()I"⟩, prog_14_method_37_code, 1, (some .int))
def YX12_feed : zY := (⟨"ProperFollowModel", "feed", "(IIIII)I"⟩, prog_14_method_3_code, 6, (some .int))
def YX12_fits : zY := (⟨"ProperFollowModel", "fits", "()I"⟩, prog_14_method_79_code, 3, (some .int))
def YX12_followersOf : zY := (⟨"ProperFollowModel", "followersOf", "(I)I"⟩, prog_14_method_44_code, 4, (some .int))
def YX12_four : zY := (⟨"ProperFollowModel", "four", "(I)V"⟩, prog_14_method_4_code, 3, none)
def YX12_fresh : zY := (⟨"ProperFollowModel", "fresh", "(I)Z"⟩, prog_14_method_27_code, 2, (some .boolean))
def YX12_goesOn : zY := (⟨"ProperFollowModel", "goesOn", "(I)I"⟩, prog_14_method_61_code, 3, (some .int))
def YX12_goesTo : zY := (⟨"ProperFollowModel", "goesTo", "(I)I"⟩, prog_14_method_59_code, 3, (some .int))
def YX12_greater : zY := (⟨"ProperFollowModel", "greater", "(II)I"⟩, prog_14_method_10_code, 2, (some .int))
def YX12_hire : zY := (⟨"ProperFollowModel", "hire", "(III)I"⟩, prog_14_method_65_code, 5, (some .int))
def YX12_hiredBy : zY := (⟨"ProperFollowModel", "hiredBy", "(I)I"⟩, prog_14_method_90_code, 2, (some .int))
def YX12_hires : zY := (⟨"ProperFollowModel", "hires", "()I"⟩, prog_14_method_88_code, 6, (some .int))
def YX12_hiresFar : zY := (⟨"ProperFollowModel", "hiresFar", "()I"⟩, prog_14_method_89_code, 1, (some .int))
def YX12_image : zY := (⟨"ProperFollowModel", "image", "(I)Z"⟩, prog_14_method_116_code, 3, (some .boolean))
def YX12_isBeside : zY := (⟨"ProperFollowModel", "isBeside", "(II)Z"⟩, prog_14_method_40_code, 3, (some .boolean))
def YX12_isCorner : zY := (⟨"ProperFollowModel", "isCorner", "(I)Z"⟩, prog_14_method_38_code, 2, (some .boolean))
def YX12_isDigit : zY := (⟨"ProperFollowModel", "isDigit", "(I)Z"⟩, prog_14_method_17_code, 1, (some .boolean))
def YX12_isFit : zY := (⟨"ProperFollowModel", "isFit", "(I)Z"⟩, prog_14_method_77_code, 4, (some .boolean))
def YX12_isIdle : zY := (⟨"ProperFollowModel", "isIdle", "(I)Z"⟩, prog_14_method_47_code, 2, (some .boolean))
def YX12_isIn : zY := (⟨"ProperFollowModel", "isIn", "(III)Z"⟩, prog_14_method_7_code, 3, (some .boolean))
def YX12_isLeaf : zY := (⟨"ProperFollowModel", "isLeaf", "(IIII)Z"⟩, prog_14_method_113_code, 6, (some .boolean))
def YX12_isName : zY := (⟨"ProperFollowModel", "isName", "()Z"⟩, prog_14_method_23_code, 3, (some .boolean))
def YX12_isPerson : zY := (⟨"ProperFollowModel", "isPerson", "(I)Z"⟩, prog_14_method_39_code, 2, (some .boolean))
def YX12_isProper : zY := (⟨"ProperFollowModel", "isProper", "(III)Z"⟩, prog_14_method_75_code, 6, (some .boolean))
def YX12_isReached : zY := (⟨"ProperFollowModel", "isReached", "(III)Z"⟩, prog_14_method_83_code, 7, (some .boolean))
def YX12_isSaid : zY := (⟨"ProperFollowModel", "isSaid", "(I)Z"⟩, prog_14_method_114_code, 5, (some .boolean))
def YX12_isSign : zY := (⟨"ProperFollowModel", "isSign", "(I)Z"⟩, prog_14_method_21_code, 2, (some .boolean))
def YX12_isSmall : zY := (⟨"ProperFollowModel", "isSmall", "(I)Z"⟩, prog_14_method_16_code, 1, (some .boolean))
def YX12_isWord : zY := (⟨"ProperFollowModel", "isWord", "(J)Z"⟩, prog_14_method_20_code, 3, (some .boolean))
def YX12_joins : zY := (⟨"ProperFollowModel", "joins", "(I)V"⟩, prog_14_method_107_code, 2, none)
def YX12_keep : zY := (⟨"ProperFollowModel", "keep", "()V"⟩, prog_14_method_67_code, 2, none)
def YX12_lastOf : zY := (⟨"ProperFollowModel", "lastOf", "(I)I"⟩, prog_14_method_45_code, 4, (some .int))
def YX12_lays : zY := (⟨"ProperFollowModel", "lays", "(I)V"⟩, prog_14_method_92_code, 2, none)
def YX12_laysApart : zY := (⟨"ProperFollowModel", "laysApart", "()V"⟩, prog_14_method_41_code, 4, none)
def YX12_leafOf : zY := (⟨"ProperFollowModel", "leafOf", "()I"⟩, prog_14_method_109_code, 1, (some .int))
def YX12_leave : zY := (⟨"ProperFollowModel", "leave", "(I)I"⟩, prog_14_method_64_code, 2, (some .int))
def YX12_leftBy : zY := (⟨"ProperFollowModel", "leftBy", "(II)I"⟩, prog_14_method_78_code, 7, (some .int))
def YX12_lesser : zY := (⟨"ProperFollowModel", "lesser", "(II)I"⟩, prog_14_method_9_code, 2, (some .int))
def YX12_lets : zY := (⟨"ProperFollowModel", "lets", "(I)V"⟩, prog_14_method_55_code, 2, none)
def YX12_line : zY := (⟨"ProperFollowModel", "line", "(I)I"⟩, prog_14_method_95_code, 2, (some .int))
def YX12_looksAt : zY := (⟨"ProperFollowModel", "looksAt", "(II)Z"⟩, prog_14_method_28_code, 3, (some .boolean))
def YX12_mean : zY := (⟨"ProperFollowModel", "mean", "(I)I"⟩, prog_14_method_91_code, 5, (some .int))
def YX12_meet : zY := (⟨"ProperFollowModel", "meet", "(II)I"⟩, prog_14_method_74_code, 5, (some .int))
def YX12_minute : zY := (⟨"ProperFollowModel", "minute", "()V"⟩, prog_14_method_60_code, 3, none)
def YX12_minutes : zY := (⟨"ProperFollowModel", "minutes", "(I)I"⟩, prog_14_method_66_code, 2, (some .int))
def YX12_next : zY := (⟨"ProperFollowModel", "next", "()V"⟩, prog_14_method_18_code, 4, none)
def YX12_nots : zY := (⟨"ProperFollowModel", "nots", "()V"⟩, prog_14_method_108_code, 1, none)
def YX12_now : zY := (⟨"ProperFollowModel", "now", "(I)I"⟩, prog_14_method_52_code, 8, (some .int))
def YX12_octet : zY := (⟨"ProperFollowModel", "octet", "(I)I"⟩, prog_14_method_12_code, 2, (some .int))
def YX12_odds : zY := (⟨"ProperFollowModel", "odds", "(III)I"⟩, prog_14_method_101_code, 6, (some .int))
def YX12_operand : zY := (⟨"ProperFollowModel", "operand", "()Z"⟩, prog_14_method_110_code, 5, (some .boolean))
def YX12_parts : zY := (⟨"ProperFollowModel", "parts", "(I)V"⟩, prog_14_method_56_code, 2, none)
def YX12_path : zY := (⟨"ProperFollowModel", "path", "(II)I"⟩, prog_14_method_81_code, 5, (some .int))
def YX12_pathAt : zY := (⟨"ProperFollowModel", "pathAt", "(I)I"⟩, prog_14_method_82_code, 2, (some .int))
def YX12_peek : zY := (⟨"ProperFollowModel", "peek", "()I"⟩, prog_14_method_15_code, 1, (some .int))
def YX12_person : zY := (⟨"ProperFollowModel", "person", "(II)I"⟩, prog_14_method_49_code, 3, (some .int))
def YX12_printsInAll : zY := (⟨"ProperFollowModel", "printsInAll", "()I"⟩, prog_14_method_48_code, 3, (some .int))
def YX12_proper : zY := (⟨"ProperFollowModel", "proper", "(II)I"⟩, prog_14_method_76_code, 5, (some .int))
def YX12_puts : zY := (⟨"ProperFollowModel", "puts", "(III)Z"⟩, prog_14_method_25_code, 4, (some .boolean))
def YX12_readCorner : zY := (⟨"ProperFollowModel", "readCorner", "()Z"⟩, prog_14_method_31_code, 2, (some .boolean))
def YX12_readFollows : zY := (⟨"ProperFollowModel", "readFollows", "()Z"⟩, prog_14_method_35_code, 3, (some .boolean))
def YX12_readLine : zY := (⟨"ProperFollowModel", "readLine", "()Z"⟩, prog_14_method_30_code, 1, (some .boolean))
def YX12_readNext : zY := (⟨"ProperFollowModel", "readNext", "()Z"⟩, prog_14_method_34_code, 3, (some .boolean))
def YX12_readPerson : zY := (⟨"ProperFollowModel", "readPerson", "()Z"⟩, prog_14_method_33_code, 2, (some .boolean))
def YX12_readStreet : zY := (⟨"ProperFollowModel", "readStreet", "()Z"⟩, prog_14_method_32_code, 2, (some .boolean))
def YX12_restore : zY := (⟨"ProperFollowModel", "restore", "(I)Z"⟩, prog_14_method_117_code, 3, (some .boolean))
def YX12_ring : zY := (⟨"ProperFollowModel", "ring", "(I)I"⟩, prog_14_method_71_code, 2, (some .int))
def YX12_ringOf : zY := (⟨"ProperFollowModel", "ringOf", "(I)I"⟩, prog_14_method_46_code, 4, (some .int))
def YX12_said : zY := (⟨"ProperFollowModel", "said", "(I)I"⟩, prog_14_method_115_code, 4, (some .int))
def YX12_says : zY := (⟨"ProperFollowModel", "says", "(J)V"⟩, prog_14_method_94_code, 3, none)
def YX12_seek : zY := (⟨"ProperFollowModel", "seek", "(II)I"⟩, prog_14_method_26_code, 4, (some .int))
def YX12_send : zY := (⟨"ProperFollowModel", "send", "(II)I"⟩, prog_14_method_62_code, 4, (some .int))
def YX12_sends : zY := (⟨"ProperFollowModel", "sends", "(II)V"⟩, prog_14_method_54_code, 3, none)
def YX12_sentence : zY := (⟨"ProperFollowModel", "sentence", "()I"⟩, prog_14_method_112_code, 3, (some .int))
def YX12_sign : zY := (⟨"ProperFollowModel", "sign", "(I)Z"⟩, prog_14_method_22_code, 2, (some .boolean))
def YX12_spells : zY := (⟨"ProperFollowModel", "spells", "(J)V"⟩, prog_14_method_93_code, 4, none)
def YX12_taken : zY := (⟨"ProperFollowModel", "taken", "(I)V"⟩, prog_14_method_6_code, 2, none)
def YX12_takes : zY := (⟨"ProperFollowModel", "takes", "(II)Z"⟩, prog_14_method_24_code, 3, (some .boolean))
def YX12_takesName : zY := (⟨"ProperFollowModel", "takesName", "(II)Z"⟩, prog_14_method_29_code, 3, (some .boolean))
def YX12_thrown : zY := (⟨"ProperFollowModel", "thrown", "()I"⟩, prog_14_method_1_code, 1, (some .int))
def YX12_throwsIf : zY := (⟨"ProperFollowModel", "throwsIf", "(Z)Z"⟩, prog_14_method_2_code, 2, (some .boolean))
def YX12_told : zY := (⟨"ProperFollowModel", "told", "(I)I"⟩, prog_14_method_105_code, 2, (some .int))
def YX12_towards : zY := (⟨"ProperFollowModel", "towards", "(II)I"⟩, prog_14_method_42_code, 4, (some .int))
def YX12_town : zY := (⟨"ProperFollowModel", "town", "()I"⟩, prog_14_method_36_code, 3, (some .int))
def YX12_tries : zY := (⟨"ProperFollowModel", "tries", "()V"⟩, prog_14_method_69_code, 2, none)
def YX12_undo : zY := (⟨"ProperFollowModel", "undo", "()I"⟩, prog_14_method_68_code, 2, (some .int))
def YX12_was : zY := (⟨"ProperFollowModel", "was", "(II)I"⟩, prog_14_method_50_code, 3, (some .int))
def YX12_whomBy : zY := (⟨"ProperFollowModel", "whomBy", "(I)I"⟩, prog_14_method_43_code, 2, (some .int))
def YX12_whyHire : zY := (⟨"ProperFollowModel", "whyHire", "(I)I"⟩, prog_14_method_57_code, 2, (some .int))
def YX12_whySend : zY := (⟨"ProperFollowModel", "whySend", "(II)I"⟩, prog_14_method_53_code, 4, (some .int))
def YX12_worthBy : zY := (⟨"ProperFollowModel", "worthBy", "(III)I"⟩, prog_14_method_87_code, 4, (some .int))
def YX1_allPrints : zY := (⟨"ProperFollow$Day", "allPrints", "()I"⟩, prog_3_method_19_code, 3, (some .int))
def YX1_begin : zY := (⟨"ProperFollow$Day", "begin", "(III)V"⟩, prog_3_method_6_code, 5, none)
def YX1_bunsAt : zY := (⟨"ProperFollow$Day", "bunsAt", "(I)I"⟩, prog_3_method_13_code, 2, (some .int))
def YX1_bunsFound : zY := (⟨"ProperFollow$Day", "bunsFound", "()I"⟩, prog_3_method_9_code, 1, (some .int))
def YX1_bunsOf : zY := (⟨"ProperFollow$Day", "bunsOf", "(I)I"⟩, prog_3_method_12_code, 2, (some .int))
def YX1_clear : zY := (⟨"ProperFollow$Day", "clear", "()V"⟩, prog_3_method_2_code, 1, none)
def YX1_copyFrom : zY := (⟨"ProperFollow$Day", "copyFrom", "(LProperFollow$Day;)V"⟩, prog_3_method_3_code, 2, none)
def YX1_dropsBun : zY := (⟨"ProperFollow$Day", "dropsBun", "(I)I"⟩, prog_3_method_29_code, 3, (some .int))
def YX1_findBun : zY := (⟨"ProperFollow$Day", "findBun", "(I)V"⟩, prog_3_method_37_code, 3, none)
def YX1_firstOfRings : zY := (⟨"ProperFollow$Day", "firstOfRings", "()I"⟩, prog_3_method_25_code, 3, (some .int))
def YX1_followedBy : zY := (⟨"ProperFollow$Day", "followedBy", "(I)I"⟩, prog_3_method_15_code, 2, (some .int))
def YX1_followersOf : zY := (⟨"ProperFollow$Day", "followersOf", "(I)I"⟩, prog_3_method_21_code, 4, (some .int))
def YX1_followsInstead : zY := (⟨"ProperFollow$Day", "followsInstead", "(III)V"⟩, prog_3_method_32_code, 4, none)
def YX1_goesTo : zY := (⟨"ProperFollow$Day", "goesTo", "(LProperFollow$Plan;II)I"⟩, prog_3_method_28_code, 6, (some .int))
def YX1_isIdle : zY := (⟨"ProperFollow$Day", "isIdle", "(I)Z"⟩, prog_3_method_18_code, 2, (some .boolean))
def YX1_leavesOff : zY := (⟨"ProperFollow$Day", "leavesOff", "(I)I"⟩, prog_3_method_30_code, 2, (some .int))
def YX1_mayBe : zY := (⟨"ProperFollow$Day", "mayBe", "(I)Z"⟩, prog_3_method_4_code, 1, (some .boolean))
def YX1_mayBeCorner : zY := (⟨"ProperFollow$Day", "mayBeCorner", "(I)Z"⟩, prog_3_method_5_code, 1, (some .boolean))
def YX1_minuteNow : zY := (⟨"ProperFollow$Day", "minuteNow", "()I"⟩, prog_3_method_7_code, 1, (some .int))
def YX1_minutesLeft : zY := (⟨"ProperFollow$Day", "minutesLeft", "()I"⟩, prog_3_method_8_code, 1, (some .int))
def YX1_move : zY := (⟨"ProperFollow$Day", "move", "(II)V"⟩, prog_3_method_36_code, 6, none)
def YX1_nextPlace : zY := (⟨"ProperFollow$Day", "nextPlace", "(LProperFollow$Plan;I)I"⟩, prog_3_method_34_code, 5, (some .int))
def YX1_passMinutes : zY := (⟨"ProperFollow$Day", "passMinutes", "(LProperFollow$Plan;I)V"⟩, prog_3_method_33_code, 5, none)
def YX1_printsAt : zY := (⟨"ProperFollow$Day", "printsAt", "(I)I"⟩, prog_3_method_14_code, 2, (some .int))
def YX1_ringOf : zY := (⟨"ProperFollow$Day", "ringOf", "(I)I"⟩, prog_3_method_26_code, 5, (some .int))
def YX1_shortenWay : zY := (⟨"ProperFollow$Day", "shortenWay", "(I)V"⟩, prog_3_method_35_code, 4, none)
def YX1_takesOn : zY := (⟨"ProperFollow$Day", "takesOn", "(III)I"⟩, prog_3_method_31_code, 4, (some .int))
def YX1_wasAt : zY := (⟨"ProperFollow$Day", "wasAt", "(II)I"⟩, prog_3_method_10_code, 3, (some .int))
def YX1_wayLeft : zY := (⟨"ProperFollow$Day", "wayLeft", "(I)I"⟩, prog_3_method_17_code, 2, (some .int))
def YX1_whereIs : zY := (⟨"ProperFollow$Day", "whereIs", "(I)I"⟩, prog_3_method_11_code, 2, (some .int))
def YX1_whoFollows : zY := (⟨"ProperFollow$Day", "whoFollows", "()I"⟩, prog_3_method_22_code, 3, (some .int))
def YX1_whoHasWay : zY := (⟨"ProperFollow$Day", "whoHasWay", "()I"⟩, prog_3_method_23_code, 3, (some .int))
def YX1_whoIsRinged : zY := (⟨"ProperFollow$Day", "whoIsRinged", "()I"⟩, prog_3_method_24_code, 3, (some .int))
def YX1_whoWasAt : zY := (⟨"ProperFollow$Day", "whoWasAt", "(II)I"⟩, prog_3_method_20_code, 5, (some .int))
def YX2_act : zY := (⟨"ProperFollow$Draws", "act", "(LProperFollow$Plan;LProperFollow$Day;I)V"⟩, prog_4_method_4_code, 6, none)
def YX2_draw : zY := (⟨"ProperFollow$Draws", "draw", "(I)I"⟩, prog_4_method_2_code, 2, (some .int))
def YX2_passMinutes : zY := (⟨"ProperFollow$Draws", "passMinutes", "(LProperFollow$Plan;LProperFollow$Day;II)I"⟩, prog_4_method_3_code, 8, (some .int))
def YX3_clear : zY := (⟨"ProperFollow$History", "clear", "()V"⟩, prog_5_method_3_code, 1, none)
def YX3_length : zY := (⟨"ProperFollow$History", "length", "()I"⟩, prog_5_method_2_code, 1, (some .int))
def YX5_addByte : zY := (⟨"ProperFollow$Line", "addByte", "(I)V"⟩, prog_7_method_5_code, 2, none)
def YX5_addName : zY := (⟨"ProperFollow$Line", "addName", "(J)V"⟩, prog_7_method_8_code, 5, none)
def YX5_byteOf : zY := (⟨"ProperFollow$Line", "byteOf", "(I)I"⟩, prog_7_method_3_code, 2, (some .int))
def YX5_clear : zY := (⟨"ProperFollow$Line", "clear", "()V"⟩, prog_7_method_4_code, 1, none)
def YX6_chosenFor : zY := (⟨"ProperFollow$Pairing", "chosenFor", "(I)I"⟩, prog_8_method_4_code, 2, (some .int))
def YX6_farInAll : zY := (⟨"ProperFollow$Pairing", "farInAll", "()I"⟩, prog_8_method_3_code, 1, (some .int))
def YX6_keepIfBetter : zY := (⟨"ProperFollow$Pairing", "keepIfBetter", "(II)V"⟩, prog_8_method_7_code, 3, none)
def YX7_areBeside : zY := (⟨"ProperFollow$Plan", "areBeside", "(II)Z"⟩, prog_9_method_12_code, 3, (some .boolean))
def YX7_besideAny : zY := (⟨"ProperFollow$Plan", "besideAny", "(I)I"⟩, prog_9_method_17_code, 4, (some .int))
def YX7_besideOf : zY := (⟨"ProperFollow$Plan", "besideOf", "(I)I"⟩, prog_9_method_11_code, 2, (some .int))
def YX7_clear : zY := (⟨"ProperFollow$Plan", "clear", "()V"⟩, prog_9_method_19_code, 1, none)
def YX7_copyFrom : zY := (⟨"ProperFollow$Plan", "copyFrom", "(LProperFollow$Plan;)V"⟩, prog_9_method_18_code, 2, none)
def YX7_cornerNamed : zY := (⟨"ProperFollow$Plan", "cornerNamed", "(J)I"⟩, prog_9_method_9_code, 4, (some .int))
def YX7_corners : zY := (⟨"ProperFollow$Plan", "corners", "()I"⟩, prog_9_method_2_code, 1, (some .int))
def YX7_farFrom : zY := (⟨"ProperFollow$Plan", "farFrom", "(II)I"⟩, prog_9_method_13_code, 3, (some .int))
def YX7_hasCorner : zY := (⟨"ProperFollow$Plan", "hasCorner", "(I)Z"⟩, prog_9_method_5_code, 2, (some .boolean))
def YX7_hasPerson : zY := (⟨"ProperFollow$Plan", "hasPerson", "(I)Z"⟩, prog_9_method_6_code, 2, (some .boolean))
def YX7_leastBar : zY := (⟨"ProperFollow$Plan", "leastBar", "(II)I"⟩, prog_9_method_15_code, 7, (some .int))
def YX7_measure : zY := (⟨"ProperFollow$Plan", "measure", "()V"⟩, prog_9_method_28_code, 5, none)
def YX7_needNewName : zY := (⟨"ProperFollow$Plan", "needNewName", "(LProperFollow$Reader;)Z"⟩, prog_9_method_23_code, 4, (some .boolean))
def YX7_noteFar : zY := (⟨"ProperFollow$Plan", "noteFar", "(III)V"⟩, prog_9_method_29_code, 5, none)
def YX7_personName : zY := (⟨"ProperFollow$Plan", "personName", "(I)J"⟩, prog_9_method_8_code, 2, (some .long))
def YX7_personNamed : zY := (⟨"ProperFollow$Plan", "personNamed", "(J)I"⟩, prog_9_method_10_code, 4, (some .int))
def YX7_persons : zY := (⟨"ProperFollow$Plan", "persons", "()I"⟩, prog_9_method_4_code, 1, (some .int))
def YX7_reached : zY := (⟨"ProperFollow$Plan", "reached", "(II)I"⟩, prog_9_method_16_code, 5, (some .int))
def YX7_readCorner : zY := (⟨"ProperFollow$Plan", "readCorner", "(LProperFollow$Reader;)V"⟩, prog_9_method_22_code, 2, none)
def YX7_readFollows : zY := (⟨"ProperFollow$Plan", "readFollows", "(LProperFollow$Reader;LProperFollow$Day;)V"⟩, prog_9_method_27_code, 6, none)
def YX7_readFrom : zY := (⟨"ProperFollow$Plan", "readFrom", "(LProperFollow$Reader;LProperFollow$Day;)I"⟩, prog_9_method_20_code, 5, (some .int))
def YX7_readLine : zY := (⟨"ProperFollow$Plan", "readLine", "(LProperFollow$Reader;LProperFollow$Day;)V"⟩, prog_9_method_21_code, 3, none)
def YX7_readNext : zY := (⟨"ProperFollow$Plan", "readNext", "(LProperFollow$Reader;LProperFollow$Day;)V"⟩, prog_9_method_26_code, 5, none)
def YX7_readPerson : zY := (⟨"ProperFollow$Plan", "readPerson", "(LProperFollow$Reader;LProperFollow$Day;)V"⟩, prog_9_method_25_code, 7, none)
def YX7_readStreet : zY := (⟨"ProperFollow$Plan", "readStreet", "(LProperFollow$Reader;)V"⟩, prog_9_method_24_code, 4, none)
def YX7_stepTowards : zY := (⟨"ProperFollow$Plan", "stepTowards", "(II)I"⟩, prog_9_method_14_code, 5, (some .int))
def YX7_streets : zY := (⟨"ProperFollow$Plan", "streets", "()I"⟩, prog_9_method_3_code, 1, (some .int))
def YX8_atEnd : zY := (⟨"ProperFollow$Reader", "atEnd", "()Z"⟩, prog_10_method_8_code, 1, (some .boolean))
def YX8_fail : zY := (⟨"ProperFollow$Reader", "fail", "(I)V"⟩, prog_10_method_11_code, 2, none)
def YX8_faultKind : zY := (⟨"ProperFollow$Reader", "faultKind", "()I"⟩, prog_10_method_6_code, 1, (some .int))
def YX8_goOn : zY := (⟨"ProperFollow$Reader", "goOn", "()V"⟩, prog_10_method_12_code, 5, none)
def YX8_isGood : zY := (⟨"ProperFollow$Reader", "isGood", "()Z"⟩, prog_10_method_7_code, 1, (some .boolean))
def YX8_isSign : zY := (⟨"ProperFollow$Reader", "isSign", "(I)Z"⟩, prog_10_method_9_code, 2, (some .boolean))
def YX8_isSomeSign : zY := (⟨"ProperFollow$Reader", "isSomeSign", "(I)Z"⟩, prog_10_method_13_code, 1, (some .boolean))
def YX8_needCorner : zY := (⟨"ProperFollow$Reader", "needCorner", "(LProperFollow$Plan;)I"⟩, prog_10_method_17_code, 3, (some .int))
def YX8_needName : zY := (⟨"ProperFollow$Reader", "needName", "()Z"⟩, prog_10_method_16_code, 1, (some .boolean))
def YX8_needPerson : zY := (⟨"ProperFollow$Reader", "needPerson", "(LProperFollow$Plan;)I"⟩, prog_10_method_18_code, 3, (some .int))
def YX8_place : zY := (⟨"ProperFollow$Reader", "place", "()I"⟩, prog_10_method_5_code, 1, (some .int))
def YX8_readRun : zY := (⟨"ProperFollow$Reader", "readRun", "()V"⟩, prog_10_method_14_code, 6, none)
def YX8_start : zY := (⟨"ProperFollow$Reader", "start", "(I)V"⟩, prog_10_method_4_code, 2, none)
def YX8_takeComparison : zY := (⟨"ProperFollow$Reader", "takeComparison", "()I"⟩, prog_10_method_20_code, 2, (some .int))
def YX8_takeNumber : zY := (⟨"ProperFollow$Reader", "takeNumber", "(II)I"⟩, prog_10_method_19_code, 4, (some .int))
def YX8_takeSign : zY := (⟨"ProperFollow$Reader", "takeSign", "(I)V"⟩, prog_10_method_21_code, 2, none)
def YX8_toldWord : zY := (⟨"ProperFollow$Reader", "toldWord", "()I"⟩, prog_10_method_15_code, 2, (some .int))
def YX8_withLetter : zY := (⟨"ProperFollow$Reader", "withLetter", "(JI)J"⟩, prog_10_method_3_code, 3, (some .long))
def YX8_wordHere : zY := (⟨"ProperFollow$Reader", "wordHere", "()J"⟩, prog_10_method_10_code, 1, (some .long))
def YX9_addPart : zY := (⟨"ProperFollow$Sentence", "addPart", "(III)V"⟩, prog_11_method_15_code, 4, none)
def YX9_addWaiting : zY := (⟨"ProperFollow$Sentence", "addWaiting", "(I)V"⟩, prog_11_method_14_code, 2, none)
def YX9_clear : zY := (⟨"ProperFollow$Sentence", "clear", "()V"⟩, prog_11_method_4_code, 1, none)
def YX9_compares : zY := (⟨"ProperFollow$Sentence", "compares", "(II)Z"⟩, prog_11_method_19_code, 3, (some .boolean))
def YX9_copyFrom : zY := (⟨"ProperFollow$Sentence", "copyFrom", "(LProperFollow$Sentence;)V"⟩, prog_11_method_5_code, 2, none)
def YX9_endOne : zY := (⟨"ProperFollow$Sentence", "endOne", "()V"⟩, prog_11_method_10_code, 2, none)
def YX9_fitsPlain : zY := (⟨"ProperFollow$Sentence", "fitsPlain", "(LProperFollow$Day;II)Z"⟩, prog_11_method_18_code, 4, (some .boolean))
def YX9_isThere : zY := (⟨"ProperFollow$Sentence", "isThere", "()Z"⟩, prog_11_method_2_code, 1, (some .boolean))
def YX9_lastWaiting : zY := (⟨"ProperFollow$Sentence", "lastWaiting", "()I"⟩, prog_11_method_13_code, 1, (some .int))
def YX9_ones : zY := (⟨"ProperFollow$Sentence", "ones", "()I"⟩, prog_11_method_3_code, 1, (some .int))
def YX9_readFrom : zY := (⟨"ProperFollow$Sentence", "readFrom", "(LProperFollow$Reader;LProperFollow$Plan;)V"⟩, prog_11_method_6_code, 4, none)
def YX9_readJoint : zY := (⟨"ProperFollow$Sentence", "readJoint", "(LProperFollow$Reader;)V"⟩, prog_11_method_9_code, 3, none)
def YX9_readOne : zY := (⟨"ProperFollow$Sentence", "readOne", "(LProperFollow$Reader;LProperFollow$Plan;)V"⟩, prog_11_method_7_code, 5, none)
def YX9_readPlain : zY := (⟨"ProperFollow$Sentence", "readPlain", "(LProperFollow$Reader;LProperFollow$Plan;I)V"⟩, prog_11_method_8_code, 6, none)
def YX9_settleBracket : zY := (⟨"ProperFollow$Sentence", "settleBracket", "()Z"⟩, prog_11_method_12_code, 1, (some .boolean))
def YX9_settleWaiting : zY := (⟨"ProperFollow$Sentence", "settleWaiting", "(I)V"⟩, prog_11_method_11_code, 4, none)
def YX9_whoFits : zY := (⟨"ProperFollow$Sentence", "whoFits", "(LProperFollow$Plan;LProperFollow$Day;)I"⟩, prog_11_method_16_code, 7, (some .int))
def YX9_whoFitsPlain : zY := (⟨"ProperFollow$Sentence", "whoFitsPlain", "(LProperFollow$Plan;LProperFollow$Day;I)I"⟩, prog_11_method_17_code, 6, (some .int))
theorem kbipush_m2 : (Int8.ofInt (-2)).toInt32 = (-2) := by decide +kernel
theorem kbipush_6 : (Int8.ofInt 6).toInt32 = 6 := by decide +kernel
theorem kbipush_7 : (Int8.ofInt 7).toInt32 = 7 := by decide +kernel
theorem kbipush_8 : (Int8.ofInt 8).toInt32 = 8 := by decide +kernel
theorem kbipush_9 : (Int8.ofInt 9).toInt32 = 9 := by decide +kernel
theorem kbipush_10 : (Int8.ofInt 10).toInt32 = 10 := by decide +kernel
theorem kbipush_11 : (Int8.ofInt 11).toInt32 = 11 := by decide +kernel
theorem kbipush_12 : (Int8.ofInt 12).toInt32 = 12 := by decide +kernel
theorem kbipush_14 : (Int8.ofInt 14).toInt32 = 14 := by decide +kernel
theorem kbipush_16 : (Int8.ofInt 16).toInt32 = 16 := by decide +kernel
theorem kbipush_17 : (Int8.ofInt 17).toInt32 = 17 := by decide +kernel
theorem kbipush_18 : (Int8.ofInt 18).toInt32 = 18 := by decide +kernel
theorem kbipush_20 : (Int8.ofInt 20).toInt32 = 20 := by decide +kernel
theorem kbipush_21 : (Int8.ofInt 21).toInt32 = 21 := by decide +kernel
theorem kbipush_22 : (Int8.ofInt 22).toInt32 = 22 := by decide +kernel
theorem kbipush_23 : (Int8.ofInt 23).toInt32 = 23 := by decide +kernel
theorem kbipush_24 : (Int8.ofInt 24).toInt32 = 24 := by decide +kernel
theorem kbipush_29 : (Int8.ofInt 29).toInt32 = 29 := by decide +kernel
theorem kbipush_30 : (Int8.ofInt 30).toInt32 = 30 := by decide +kernel
theorem kbipush_32 : (Int8.ofInt 32).toInt32 = 32 := by decide +kernel
theorem kbipush_35 : (Int8.ofInt 35).toInt32 = 35 := by decide +kernel
theorem kbipush_36 : (Int8.ofInt 36).toInt32 = 36 := by decide +kernel
theorem kbipush_40 : (Int8.ofInt 40).toInt32 = 40 := by decide +kernel
theorem kbipush_41 : (Int8.ofInt 41).toInt32 = 41 := by decide +kernel
theorem kbipush_48 : (Int8.ofInt 48).toInt32 = 48 := by decide +kernel
theorem kbipush_56 : (Int8.ofInt 56).toInt32 = 56 := by decide +kernel
theorem kbipush_57 : (Int8.ofInt 57).toInt32 = 57 := by decide +kernel
theorem kbipush_59 : (Int8.ofInt 59).toInt32 = 59 := by decide +kernel
theorem kbipush_60 : (Int8.ofInt 60).toInt32 = 60 := by decide +kernel
theorem kbipush_61 : (Int8.ofInt 61).toInt32 = 61 := by decide +kernel
theorem kbipush_62 : (Int8.ofInt 62).toInt32 = 62 := by decide +kernel
theorem kbipush_63 : (Int8.ofInt 63).toInt32 = 63 := by decide +kernel
theorem kbipush_64 : (Int8.ofInt 64).toInt32 = 64 := by decide +kernel
theorem kbipush_89 : (Int8.ofInt 89).toInt32 = 89 := by decide +kernel
theorem kbipush_90 : (Int8.ofInt 90).toInt32 = 90 := by decide +kernel
theorem kbipush_91 : (Int8.ofInt 91).toInt32 = 91 := by decide +kernel
theorem kbipush_97 : (Int8.ofInt 97).toInt32 = 97 := by decide +kernel
theorem kbipush_99 : (Int8.ofInt 99).toInt32 = 99 := by decide +kernel
theorem kbipush_122 : (Int8.ofInt 122).toInt32 = 122 := by decide +kernel
theorem kbipush_127 : (Int8.ofInt 127).toInt32 = 127 := by decide +kernel
theorem kiconst_m1 : Int32.ofInt (-1) = (-1) := by decide +kernel
theorem kiconst_0 : Int32.ofInt 0 = 0 := by decide +kernel
theorem kiconst_1 : Int32.ofInt 1 = 1 := by decide +kernel
theorem kiconst_2 : Int32.ofInt 2 = 2 := by decide +kernel
theorem kiconst_3 : Int32.ofInt 3 = 3 := by decide +kernel
theorem kiconst_4 : Int32.ofInt 4 = 4 := by decide +kernel
theorem kiconst_5 : Int32.ofInt 5 = 5 := by decide +kernel
theorem ksipush_m1000 : (Int16.ofInt (-1000)).toInt32 = (-1000) := by decide +kernel
theorem ksipush_133 : (Int16.ofInt 133).toInt32 = 133 := by decide +kernel
theorem ksipush_139 : (Int16.ofInt 139).toInt32 = 139 := by decide +kernel
theorem ksipush_145 : (Int16.ofInt 145).toInt32 = 145 := by decide +kernel
theorem ksipush_151 : (Int16.ofInt 151).toInt32 = 151 := by decide +kernel
theorem ksipush_199 : (Int16.ofInt 199).toInt32 = 199 := by decide +kernel
theorem ksipush_200 : (Int16.ofInt 200).toInt32 = 200 := by decide +kernel
theorem ksipush_207 : (Int16.ofInt 207).toInt32 = 207 := by decide +kernel
theorem ksipush_216 : (Int16.ofInt 216).toInt32 = 216 := by decide +kernel
theorem ksipush_217 : (Int16.ofInt 217).toInt32 = 217 := by decide +kernel
theorem ksipush_255 : (Int16.ofInt 255).toInt32 = 255 := by decide +kernel
theorem ksipush_397 : (Int16.ofInt 397).toInt32 = 397 := by decide +kernel
theorem ksipush_400 : (Int16.ofInt 400).toInt32 = 400 := by decide +kernel
theorem ksipush_889 : (Int16.ofInt 889).toInt32 = 889 := by decide +kernel
theorem ksipush_900 : (Int16.ofInt 900).toInt32 = 900 := by decide +kernel
theorem ksipush_940 : (Int16.ofInt 940).toInt32 = 940 := by decide +kernel
theorem ksipush_999 : (Int16.ofInt 999).toInt32 = 999 := by decide +kernel
theorem ksipush_1000 : (Int16.ofInt 1000).toInt32 = 1000 := by decide +kernel
theorem ksipush_9999 : (Int16.ofInt 9999).toInt32 = 9999 := by decide +kernel
theorem ksipush_12345 : (Int16.ofInt 12345).toInt32 = 12345 := by decide +kernel
theorem cim8 : Int32.ofInt (-8) = (-8) := by decide +kernel
theorem cim5 : Int32.ofInt (-5) = (-5) := by decide +kernel
theorem cim1 : Int32.ofInt (-1) = (-1) := by decide +kernel
theorem ci1 : Int32.ofInt 1 = 1 := by decide +kernel
theorem zi0_4 : zin 0 4 = true := by decide +kernel
theorem zi0_40 : zin 0 40 = true := by decide +kernel
theorem zi0_45 : zin 0 45 = true := by decide +kernel
theorem zi0_89 : zin 0 89 = true := by decide +kernel
theorem zi0_397 : zin 0 397 = true := by decide +kernel
theorem zi1_4 : zin 1 4 = true := by decide +kernel
theorem zi1_89 : zin 1 89 = true := by decide +kernel
theorem zi2_4 : zin 2 4 = true := by decide +kernel
theorem zi2_89 : zin 2 89 = true := by decide +kernel
theorem zi2_397 : zin 2 397 = true := by decide +kernel
theorem zi3_4 : zin 3 4 = true := by decide +kernel
theorem zi89_397 : zin 89 397 = true := by decide +kernel
theorem zi90_397 : zin 90 397 = true := by decide +kernel
theorem zi216_397 : zin 216 397 = true := by decide +kernel
theorem tn0 : (0 : Int32).toNatClampNeg = 0 := by decide +kernel
theorem tn1 : (1 : Int32).toNatClampNeg = 1 := by decide +kernel
theorem tn2 : (2 : Int32).toNatClampNeg = 2 := by decide +kernel
theorem tn3 : (3 : Int32).toNatClampNeg = 3 := by decide +kernel
theorem tn6 : (6 : Int32).toNatClampNeg = 6 := by decide +kernel
theorem tn8 : (8 : Int32).toNatClampNeg = 8 := by decide +kernel
theorem tn36 : (36 : Int32).toNatClampNeg = 36 := by decide +kernel
theorem tn40 : (40 : Int32).toNatClampNeg = 40 := by decide +kernel
theorem tn48 : (48 : Int32).toNatClampNeg = 48 := by decide +kernel
theorem tn64 : (64 : Int32).toNatClampNeg = 64 := by decide +kernel
theorem tn89 : (89 : Int32).toNatClampNeg = 89 := by decide +kernel
theorem tn90 : (90 : Int32).toNatClampNeg = 90 := by decide +kernel
theorem tn216 : (216 : Int32).toNatClampNeg = 216 := by decide +kernel
theorem sh0 : zSH[0]? = some (11 + 10, [3, 5, 7, 12, 17, 27, 37, 43, 49, 131, 176, 181, 184, 185, 187, 0, 0, 0, 0, 0]) := by decide +kernel
theorem sh1 : zSH[1]? = some (10 + 10, [4, 0]) := by decide +kernel
theorem sh2 : zSH[2]? = some (0, [940]) := by decide +kernel
theorem sh3 : zSH[3]? = some (8 + 10, [3, 6, 0, 0, 0, 0, 1, 0, 0]) := by decide +kernel
theorem sh4 : zSH[4]? = some (1, [22]) := by decide +kernel
theorem sh5 : zSH[5]? = some (7 + 10, [8, 9, 10, 11, 0, 0, 0]) := by decide +kernel
theorem sh6 : zSH[6]? = some (1, [8]) := by decide +kernel
theorem sh7 : zSH[7]? = some (1, [6]) := by decide +kernel
theorem sh8 : zSH[8]? = some (0, [8]) := by decide +kernel
theorem sh9 : zSH[9]? = some (0, [64]) := by decide +kernel
theorem sh10 : zSH[10]? = some (7 + 10, [13, 14, 15, 16, 0, 0, 0]) := by decide +kernel
theorem sh11 : zSH[11]? = some (1, [8]) := by decide +kernel
theorem sh12 : zSH[12]? = some (1, [6]) := by decide +kernel
theorem sh13 : zSH[13]? = some (0, [8]) := by decide +kernel
theorem sh14 : zSH[14]? = some (0, [64]) := by decide +kernel
theorem sh15 : zSH[15]? = some (1 + 10, [18, 19, 20, 21, 22, 23, 24, 25, 26, 0, 0]) := by decide +kernel
theorem sh16 : zSH[16]? = some (0, [36]) := by decide +kernel
theorem sh17 : zSH[17]? = some (0, [6]) := by decide +kernel
theorem sh18 : zSH[18]? = some (0, [6]) := by decide +kernel
theorem sh19 : zSH[19]? = some (0, [6]) := by decide +kernel
theorem sh20 : zSH[20]? = some (0, [48]) := by decide +kernel
theorem sh21 : zSH[21]? = some (0, [6]) := by decide +kernel
theorem sh22 : zSH[22]? = some (0, [8]) := by decide +kernel
theorem sh23 : zSH[23]? = some (0, [8]) := by decide +kernel
theorem sh25 : zSH[25]? = some (1 + 10, [28, 29, 30, 31, 32, 33, 34, 35, 36, 0, 0]) := by decide +kernel
theorem sh26 : zSH[26]? = some (0, [36]) := by decide +kernel
theorem sh27 : zSH[27]? = some (0, [6]) := by decide +kernel
theorem sh28 : zSH[28]? = some (0, [6]) := by decide +kernel
theorem sh29 : zSH[29]? = some (0, [6]) := by decide +kernel
theorem sh30 : zSH[30]? = some (0, [48]) := by decide +kernel
theorem sh31 : zSH[31]? = some (0, [6]) := by decide +kernel
theorem sh32 : zSH[32]? = some (0, [8]) := by decide +kernel
theorem sh33 : zSH[33]? = some (0, [8]) := by decide +kernel
theorem sh34 : zSH[34]? = some (0, [6]) := by decide +kernel
theorem sh35 : zSH[35]? = some (9 + 10, [38, 39, 40, 41, 42, 0, 0, 0, 0, 0, 0]) := by decide +kernel
theorem sh36 : zSH[36]? = some (0, [40]) := by decide +kernel
theorem sh37 : zSH[37]? = some (0, [40]) := by decide +kernel
theorem sh38 : zSH[38]? = some (0, [40]) := by decide +kernel
theorem sh40 : zSH[40]? = some (0, [40]) := by decide +kernel
theorem sh41 : zSH[41]? = some (9 + 10, [44, 45, 46, 47, 48, 0, 0, 0, 0, 0, 0]) := by decide +kernel
theorem sh42 : zSH[42]? = some (0, [40]) := by decide +kernel
theorem sh43 : zSH[43]? = some (0, [40]) := by decide +kernel
theorem sh44 : zSH[44]? = some (0, [40]) := by decide +kernel
theorem sh45 : zSH[45]? = some (0, [40]) := by decide +kernel
theorem sh47 : zSH[47]? = some (3 + 10, [50, 0, 0]) := by decide +kernel
theorem sh174 : zSH[174]? = some (0 + 10, [177, 178, 179, 180, 0, 0, 0, 0, 0, 0]) := by decide +kernel
theorem sh175 : zSH[175]? = some (0, [40]) := by decide +kernel
theorem sh176 : zSH[176]? = some (0, [40]) := by decide +kernel
theorem sh177 : zSH[177]? = some (0, [40]) := by decide +kernel
theorem sh178 : zSH[178]? = some (0, [40]) := by decide +kernel
theorem sh179 : zSH[179]? = some (6 + 10, [182, 183, 0, 0]) := by decide +kernel
theorem sh180 : zSH[180]? = some (0, [6]) := by decide +kernel
theorem sh181 : zSH[181]? = some (0, [6]) := by decide +kernel
theorem sh182 : zSH[182]? = some (2 + 10, [0]) := by decide +kernel
theorem sh183 : zSH[183]? = some (5 + 10, [186, 0]) := by decide +kernel
theorem sh184 : zSH[184]? = some (0, [40]) := by decide +kernel
theorem sh185 : zSH[185]? = some (0, [8]) := by decide +kernel
theorem sh186 : zSH[186]? = some (12 + 10, [0, 189, 0, 0, 0, 0, 190, 191, 192, 193, 194, 0, 0, 0, 0, 0, 0, 1, 0, 0, 195, 196, 197, 198, 0, 0, 0, 0, 0, 199, 0, 0, 0, 200, 201, 0, 0, 202, 0, 0, 0, 203, 0, 204, 0, 0, 0, 0, 0, 205, 206, 207, 208]) := by decide +kernel
theorem sh187 : zSH[187]? = some (2, [940]) := by decide +kernel
theorem sh188 : zSH[188]? = some (0, [397]) := by decide +kernel
theorem sh189 : zSH[189]? = some (0, [89]) := by decide +kernel
theorem sh190 : zSH[190]? = some (0, [160]) := by decide +kernel
theorem sh191 : zSH[191]? = some (1, [28]) := by decide +kernel
theorem sh192 : zSH[192]? = some (1, [22]) := by decide +kernel
theorem sh193 : zSH[193]? = some (0, [64]) := by decide +kernel
theorem sh194 : zSH[194]? = some (0, [6]) := by decide +kernel
theorem sh195 : zSH[195]? = some (0, [1016]) := by decide +kernel
theorem sh196 : zSH[196]? = some (0, [127]) := by decide +kernel
theorem sh197 : zSH[197]? = some (0, [8]) := by decide +kernel
theorem sh198 : zSH[198]? = some (0, [448]) := by decide +kernel
theorem sh199 : zSH[199]? = some (0, [6]) := by decide +kernel
theorem sh200 : zSH[200]? = some (2, [48]) := by decide +kernel
theorem sh201 : zSH[201]? = some (0, [4]) := by decide +kernel
theorem sh202 : zSH[202]? = some (0, [45]) := by decide +kernel
theorem sh203 : zSH[203]? = some (3, [45]) := by decide +kernel
theorem sh204 : zSH[204]? = some (0, [794]) := by decide +kernel
theorem sh205 : zSH[205]? = some (1, [28]) := by decide +kernel
theorem sh206 : zSH[206]? = some (3, [2]) := by decide +kernel
theorem fwX11_10 : Cond.fieldLink "ProperFollow" 10 (kT11 0).1 (kT11 0).2.1 (kT11 0).2.2.1 ∈ zWS := zWS_in (List.mem_of_getElem? (i := 490) (by decide +kernel)) (by decide +kernel)
theorem flX11_10 : zfld "ProperFollow" 10 11 0 := ⟨kR11, kT11, 20, rfl, ki11, by decide, fwX11_10⟩
theorem fwX11_21 : Cond.fieldLink "ProperFollow" 21 (kT11 1).1 (kT11 1).2.1 (kT11 1).2.2.1 ∈ zWS := zWS_in (List.mem_of_getElem? (i := 491) (by decide +kernel)) (by decide +kernel)
theorem flX11_21 : zfld "ProperFollow" 21 11 1 := ⟨kR11, kT11, 20, rfl, ki11, by decide, fwX11_21⟩
theorem fwX11_28 : Cond.fieldLink "ProperFollow" 28 (kT11 2).1 (kT11 2).2.1 (kT11 2).2.2.1 ∈ zWS := zWS_in (List.mem_of_getElem? (i := 492) (by decide +kernel)) (by decide +kernel)
theorem flX11_28 : zfld "ProperFollow" 28 11 2 := ⟨kR11, kT11, 20, rfl, ki11, by decide, fwX11_28⟩
theorem fwX11_32 : Cond.fieldLink "ProperFollow" 32 (kT11 3).1 (kT11 3).2.1 (kT11 3).2.2.1 ∈ zWS := zWS_in (List.mem_of_getElem? (i := 493) (by decide +kernel)) (by decide +kernel)
theorem flX11_32 : zfld "ProperFollow" 32 11 3 := ⟨kR11, kT11, 20, rfl, ki11, by decide, fwX11_32⟩
theorem fwX11_38 : Cond.fieldLink "ProperFollow" 38 (kT11 4).1 (kT11 4).2.1 (kT11 4).2.2.1 ∈ zWS := zWS_in (List.mem_of_getElem? (i := 494) (by decide +kernel)) (by decide +kernel)
theorem flX11_38 : zfld "ProperFollow" 38 11 4 := ⟨kR11, kT11, 20, rfl, ki11, by decide, fwX11_38⟩
theorem fwX11_42 : Cond.fieldLink "ProperFollow" 42 (kT11 5).1 (kT11 5).2.1 (kT11 5).2.2.1 ∈ zWS := zWS_in (List.mem_of_getElem? (i := 495) (by decide +kernel)) (by decide +kernel)
theorem flX11_42 : zfld "ProperFollow" 42 11 5 := ⟨kR11, kT11, 20, rfl, ki11, by decide, fwX11_42⟩
theorem fwX11_48 : Cond.fieldLink "ProperFollow" 48 (kT11 6).1 (kT11 6).2.1 (kT11 6).2.2.1 ∈ zWS := zWS_in (List.mem_of_getElem? (i := 496) (by decide +kernel)) (by decide +kernel)
theorem flX11_48 : zfld "ProperFollow" 48 11 6 := ⟨kR11, kT11, 20, rfl, ki11, by decide, fwX11_48⟩
theorem fwX11_52 : Cond.fieldLink "ProperFollow" 52 (kT11 7).1 (kT11 7).2.1 (kT11 7).2.2.1 ∈ zWS := zWS_in (List.mem_of_getElem? (i := 497) (by decide +kernel)) (by decide +kernel)
theorem flX11_52 : zfld "ProperFollow" 52 11 7 := ⟨kR11, kT11, 20, rfl, ki11, by decide, fwX11_52⟩
theorem fwX11_58 : Cond.fieldLink "ProperFollow" 58 (kT11 8).1 (kT11 8).2.1 (kT11 8).2.2.1 ∈ zWS := zWS_in (List.mem_of_getElem? (i := 498) (by decide +kernel)) (by decide +kernel)
theorem flX11_58 : zfld "ProperFollow" 58 11 8 := ⟨kR11, kT11, 20, rfl, ki11, by decide, fwX11_58⟩
theorem fwX11_71 : Cond.fieldLink "ProperFollow" 71 (kT11 10).1 (kT11 10).2.1 (kT11 10).2.2.1 ∈ zWS := zWS_in (List.mem_of_getElem? (i := 500) (by decide +kernel)) (by decide +kernel)
theorem flX11_71 : zfld "ProperFollow" 71 11 10 := ⟨kR11, kT11, 20, rfl, ki11, by decide, fwX11_71⟩
theorem fwX11_78 : Cond.fieldLink "ProperFollow" 78 (kT11 11).1 (kT11 11).2.1 (kT11 11).2.2.1 ∈ zWS := zWS_in (List.mem_of_getElem? (i := 501) (by decide +kernel)) (by decide +kernel)
theorem flX11_78 : zfld "ProperFollow" 78 11 11 := ⟨kR11, kT11, 20, rfl, ki11, by decide, fwX11_78⟩
theorem fwX11_85 : Cond.fieldLink "ProperFollow" 85 (kT11 12).1 (kT11 12).2.1 (kT11 12).2.2.1 ∈ zWS := zWS_in (List.mem_of_getElem? (i := 502) (by decide +kernel)) (by decide +kernel)
theorem flX11_85 : zfld "ProperFollow" 85 11 12 := ⟨kR11, kT11, 20, rfl, ki11, by decide, fwX11_85⟩
theorem fwX11_92 : Cond.fieldLink "ProperFollow" 92 (kT11 13).1 (kT11 13).2.1 (kT11 13).2.2.1 ∈ zWS := zWS_in (List.mem_of_getElem? (i := 503) (by decide +kernel)) (by decide +kernel)
theorem flX11_92 : zfld "ProperFollow" 92 11 13 := ⟨kR11, kT11, 20, rfl, ki11, by decide, fwX11_92⟩
theorem fwX11_96 : Cond.fieldLink "ProperFollow" 96 (kT11 14).1 (kT11 14).2.1 (kT11 14).2.2.1 ∈ zWS := zWS_in (List.mem_of_getElem? (i := 504) (by decide +kernel)) (by decide +kernel)
theorem flX11_96 : zfld "ProperFollow" 96 11 14 := ⟨kR11, kT11, 20, rfl, ki11, by decide, fwX11_96⟩
theorem fwX11_100 : Cond.fieldLink "ProperFollow" 100 (kT11 15).1 (kT11 15).2.1 (kT11 15).2.2.1 ∈ zWS := zWS_in (List.mem_of_getElem? (i := 505) (by decide +kernel)) (by decide +kernel)
theorem flX11_100 : zfld "ProperFollow" 100 11 15 := ⟨kR11, kT11, 20, rfl, ki11, by decide, fwX11_100⟩
theorem fpX11_100 : zfldP "ProperFollow" 100 11 15 .int := ⟨kR11, kT11, 20, kt11, rfl, ki11, by decide, fwX11_100, kk11, kn11, by decide +kernel, by decide +kernel⟩
theorem fwX11_104 : Cond.fieldLink "ProperFollow" 104 (kT11 17).1 (kT11 17).2.1 (kT11 17).2.2.1 ∈ zWS := zWS_in (List.mem_of_getElem? (i := 507) (by decide +kernel)) (by decide +kernel)
theorem flX11_104 : zfld "ProperFollow" 104 11 17 := ⟨kR11, kT11, 20, rfl, ki11, by decide, fwX11_104⟩
theorem fpX11_104 : zfldP "ProperFollow" 104 11 17 .int := ⟨kR11, kT11, 20, kt11, rfl, ki11, by decide, fwX11_104, kk11, kn11, by decide +kernel, by decide +kernel⟩
theorem fwX11_107 : Cond.fieldLink "ProperFollow" 107 (kT11 18).1 (kT11 18).2.1 (kT11 18).2.2.1 ∈ zWS := zWS_in (List.mem_of_getElem? (i := 508) (by decide +kernel)) (by decide +kernel)
theorem flX11_107 : zfld "ProperFollow" 107 11 18 := ⟨kR11, kT11, 20, rfl, ki11, by decide, fwX11_107⟩
theorem fpX11_107 : zfldP "ProperFollow" 107 11 18 .int := ⟨kR11, kT11, 20, kt11, rfl, ki11, by decide, fwX11_107, kk11, kn11, by decide +kernel, by decide +kernel⟩
theorem fwX11_110 : Cond.fieldLink "ProperFollow" 110 (kT11 19).1 (kT11 19).2.1 (kT11 19).2.2.1 ∈ zWS := zWS_in (List.mem_of_getElem? (i := 509) (by decide +kernel)) (by decide +kernel)
theorem flX11_110 : zfld "ProperFollow" 110 11 19 := ⟨kR11, kT11, 20, rfl, ki11, by decide, fwX11_110⟩
theorem fpX11_110 : zfldP "ProperFollow" 110 11 19 .int := ⟨kR11, kT11, 20, kt11, rfl, ki11, by decide, fwX11_110, kk11, kn11, by decide +kernel, by decide +kernel⟩
theorem fwX11_139 : Cond.fieldLink "ProperFollow" 139 (kT11 16).1 (kT11 16).2.1 (kT11 16).2.2.1 ∈ zWS := zWS_in (List.mem_of_getElem? (i := 506) (by decide +kernel)) (by decide +kernel)
theorem flX11_139 : zfld "ProperFollow" 139 11 16 := ⟨kR11, kT11, 20, rfl, ki11, by decide, fwX11_139⟩
theorem fpX11_139 : zfldP "ProperFollow" 139 11 16 .int := ⟨kR11, kT11, 20, kt11, rfl, ki11, by decide, fwX11_139, kk11, kn11, by decide +kernel, by decide +kernel⟩
theorem fwX0_11 : Cond.fieldLink "ProperFollow$Book" 11 (kT0 0).1 (kT0 0).2.1 (kT0 0).2.2.1 ∈ zWS := zWS_in (List.mem_of_getElem? (i := 392) (by decide +kernel)) (by decide +kernel)
theorem flX0_11 : zfld "ProperFollow$Book" 11 0 0 := ⟨kR0, kT0, 10, rfl, ki0, by decide, fwX0_11⟩
theorem fwX0_15 : Cond.fieldLink "ProperFollow$Book" 15 (kT0 1).1 (kT0 1).2.1 (kT0 1).2.2.1 ∈ zWS := zWS_in (List.mem_of_getElem? (i := 393) (by decide +kernel)) (by decide +kernel)
theorem flX0_15 : zfld "ProperFollow$Book" 15 0 1 := ⟨kR0, kT0, 10, rfl, ki0, by decide, fwX0_15⟩
theorem fwX0_18 : Cond.fieldLink "ProperFollow$Book" 18 (kT0 2).1 (kT0 2).2.1 (kT0 2).2.2.1 ∈ zWS := zWS_in (List.mem_of_getElem? (i := 394) (by decide +kernel)) (by decide +kernel)
theorem flX0_18 : zfld "ProperFollow$Book" 18 0 2 := ⟨kR0, kT0, 10, rfl, ki0, by decide, fwX0_18⟩
theorem fwX0_21 : Cond.fieldLink "ProperFollow$Book" 21 (kT0 3).1 (kT0 3).2.1 (kT0 3).2.2.1 ∈ zWS := zWS_in (List.mem_of_getElem? (i := 395) (by decide +kernel)) (by decide +kernel)
theorem flX0_21 : zfld "ProperFollow$Book" 21 0 3 := ⟨kR0, kT0, 10, rfl, ki0, by decide, fwX0_21⟩
theorem fwX0_24 : Cond.fieldLink "ProperFollow$Book" 24 (kT0 7).1 (kT0 7).2.1 (kT0 7).2.2.1 ∈ zWS := zWS_in (List.mem_of_getElem? (i := 399) (by decide +kernel)) (by decide +kernel)
theorem flX0_24 : zfld "ProperFollow$Book" 24 0 7 := ⟨kR0, kT0, 10, rfl, ki0, by decide, fwX0_24⟩
theorem fpX0_24 : zfldP "ProperFollow$Book" 24 0 7 .int := ⟨kR0, kT0, 10, kt0, rfl, ki0, by decide, fwX0_24, kk0, kn0, by decide +kernel, by decide +kernel⟩
theorem fwX0_28 : Cond.fieldLink "ProperFollow$Book" 28 (kT0 5).1 (kT0 5).2.1 (kT0 5).2.2.1 ∈ zWS := zWS_in (List.mem_of_getElem? (i := 397) (by decide +kernel)) (by decide +kernel)
theorem flX0_28 : zfld "ProperFollow$Book" 28 0 5 := ⟨kR0, kT0, 10, rfl, ki0, by decide, fwX0_28⟩
theorem fpX0_28 : zfldP "ProperFollow$Book" 28 0 5 .boolean := ⟨kR0, kT0, 10, kt0, rfl, ki0, by decide, fwX0_28, kk0, kn0, by decide +kernel, by decide +kernel⟩
theorem fwX0_32 : Cond.fieldLink "ProperFollow$Book" 32 (kT0 6).1 (kT0 6).2.1 (kT0 6).2.2.1 ∈ zWS := zWS_in (List.mem_of_getElem? (i := 398) (by decide +kernel)) (by decide +kernel)
theorem flX0_32 : zfld "ProperFollow$Book" 32 0 6 := ⟨kR0, kT0, 10, rfl, ki0, by decide, fwX0_32⟩
theorem fpX0_32 : zfldP "ProperFollow$Book" 32 0 6 .int := ⟨kR0, kT0, 10, kt0, rfl, ki0, by decide, fwX0_32, kk0, kn0, by decide +kernel, by decide +kernel⟩
theorem fwX0_35 : Cond.fieldLink "ProperFollow$Book" 35 (kT0 8).1 (kT0 8).2.1 (kT0 8).2.2.1 ∈ zWS := zWS_in (List.mem_of_getElem? (i := 400) (by decide +kernel)) (by decide +kernel)
theorem flX0_35 : zfld "ProperFollow$Book" 35 0 8 := ⟨kR0, kT0, 10, rfl, ki0, by decide, fwX0_35⟩
theorem fpX0_35 : zfldP "ProperFollow$Book" 35 0 8 .int := ⟨kR0, kT0, 10, kt0, rfl, ki0, by decide, fwX0_35, kk0, kn0, by decide +kernel, by decide +kernel⟩
theorem fwX0_38 : Cond.fieldLink "ProperFollow$Book" 38 (kT0 9).1 (kT0 9).2.1 (kT0 9).2.2.1 ∈ zWS := zWS_in (List.mem_of_getElem? (i := 401) (by decide +kernel)) (by decide +kernel)
theorem flX0_38 : zfld "ProperFollow$Book" 38 0 9 := ⟨kR0, kT0, 10, rfl, ki0, by decide, fwX0_38⟩
theorem fpX0_38 : zfldP "ProperFollow$Book" 38 0 9 .int := ⟨kR0, kT0, 10, kt0, rfl, ki0, by decide, fwX0_38, kk0, kn0, by decide +kernel, by decide +kernel⟩
theorem fwX0_41 : Cond.fieldLink "ProperFollow$Book" 41 (kT0 4).1 (kT0 4).2.1 (kT0 4).2.2.1 ∈ zWS := zWS_in (List.mem_of_getElem? (i := 396) (by decide +kernel)) (by decide +kernel)
theorem flX0_41 : zfld "ProperFollow$Book" 41 0 4 := ⟨kR0, kT0, 10, rfl, ki0, by decide, fwX0_41⟩
theorem fpX0_41 : zfldP "ProperFollow$Book" 41 0 4 .int := ⟨kR0, kT0, 10, kt0, rfl, ki0, by decide, fwX0_41, kk0, kn0, by decide +kernel, by decide +kernel⟩
theorem fwX1_9 : Cond.fieldLink "ProperFollow$Day" 9 (kT1 0).1 (kT1 0).2.1 (kT1 0).2.2.1 ∈ zWS := zWS_in (List.mem_of_getElem? (i := 291) (by decide +kernel)) (by decide +kernel)
theorem flX1_9 : zfld "ProperFollow$Day" 9 1 0 := ⟨kR1, kT1, 11, rfl, ki1, by decide, fwX1_9⟩
theorem fwX1_15 : Cond.fieldLink "ProperFollow$Day" 15 (kT1 1).1 (kT1 1).2.1 (kT1 1).2.2.1 ∈ zWS := zWS_in (List.mem_of_getElem? (i := 292) (by decide +kernel)) (by decide +kernel)
theorem flX1_15 : zfld "ProperFollow$Day" 15 1 1 := ⟨kR1, kT1, 11, rfl, ki1, by decide, fwX1_15⟩
theorem fwX1_18 : Cond.fieldLink "ProperFollow$Day" 18 (kT1 2).1 (kT1 2).2.1 (kT1 2).2.2.1 ∈ zWS := zWS_in (List.mem_of_getElem? (i := 293) (by decide +kernel)) (by decide +kernel)
theorem flX1_18 : zfld "ProperFollow$Day" 18 1 2 := ⟨kR1, kT1, 11, rfl, ki1, by decide, fwX1_18⟩
theorem fwX1_21 : Cond.fieldLink "ProperFollow$Day" 21 (kT1 3).1 (kT1 3).2.1 (kT1 3).2.2.1 ∈ zWS := zWS_in (List.mem_of_getElem? (i := 294) (by decide +kernel)) (by decide +kernel)
theorem flX1_21 : zfld "ProperFollow$Day" 21 1 3 := ⟨kR1, kT1, 11, rfl, ki1, by decide, fwX1_21⟩
theorem fwX1_24 : Cond.fieldLink "ProperFollow$Day" 24 (kT1 4).1 (kT1 4).2.1 (kT1 4).2.2.1 ∈ zWS := zWS_in (List.mem_of_getElem? (i := 295) (by decide +kernel)) (by decide +kernel)
theorem flX1_24 : zfld "ProperFollow$Day" 24 1 4 := ⟨kR1, kT1, 11, rfl, ki1, by decide, fwX1_24⟩
theorem fwX1_27 : Cond.fieldLink "ProperFollow$Day" 27 (kT1 5).1 (kT1 5).2.1 (kT1 5).2.2.1 ∈ zWS := zWS_in (List.mem_of_getElem? (i := 296) (by decide +kernel)) (by decide +kernel)
theorem flX1_27 : zfld "ProperFollow$Day" 27 1 5 := ⟨kR1, kT1, 11, rfl, ki1, by decide, fwX1_27⟩
theorem fwX1_30 : Cond.fieldLink "ProperFollow$Day" 30 (kT1 6).1 (kT1 6).2.1 (kT1 6).2.2.1 ∈ zWS := zWS_in (List.mem_of_getElem? (i := 297) (by decide +kernel)) (by decide +kernel)
theorem flX1_30 : zfld "ProperFollow$Day" 30 1 6 := ⟨kR1, kT1, 11, rfl, ki1, by decide, fwX1_30⟩
theorem fwX1_33 : Cond.fieldLink "ProperFollow$Day" 33 (kT1 7).1 (kT1 7).2.1 (kT1 7).2.2.1 ∈ zWS := zWS_in (List.mem_of_getElem? (i := 298) (by decide +kernel)) (by decide +kernel)
theorem flX1_33 : zfld "ProperFollow$Day" 33 1 7 := ⟨kR1, kT1, 11, rfl, ki1, by decide, fwX1_33⟩
theorem fwX1_36 : Cond.fieldLink "ProperFollow$Day" 36 (kT1 8).1 (kT1 8).2.1 (kT1 8).2.2.1 ∈ zWS := zWS_in (List.mem_of_getElem? (i := 299) (by decide +kernel)) (by decide +kernel)
theorem flX1_36 : zfld "ProperFollow$Day" 36 1 8 := ⟨kR1, kT1, 11, rfl, ki1, by decide, fwX1_36⟩
theorem fwX1_45 : Cond.fieldLink "ProperFollow$Day" 45 (kT1 9).1 (kT1 9).2.1 (kT1 9).2.2.1 ∈ zWS := zWS_in (List.mem_of_getElem? (i := 300) (by decide +kernel)) (by decide +kernel)
theorem flX1_45 : zfld "ProperFollow$Day" 45 1 9 := ⟨kR1, kT1, 11, rfl, ki1, by decide, fwX1_45⟩
theorem fpX1_45 : zfldP "ProperFollow$Day" 45 1 9 .int := ⟨kR1, kT1, 11, kt1, rfl, ki1, by decide, fwX1_45, kk1, kn1, by decide +kernel, by decide +kernel⟩
theorem fwX1_49 : Cond.fieldLink "ProperFollow$Day" 49 (kT1 10).1 (kT1 10).2.1 (kT1 10).2.2.1 ∈ zWS := zWS_in (List.mem_of_getElem? (i := 301) (by decide +kernel)) (by decide +kernel)
theorem flX1_49 : zfld "ProperFollow$Day" 49 1 10 := ⟨kR1, kT1, 11, rfl, ki1, by decide, fwX1_49⟩
theorem fpX1_49 : zfldP "ProperFollow$Day" 49 1 10 .int := ⟨kR1, kT1, 11, kt1, rfl, ki1, by decide, fwX1_49, kk1, kn1, by decide +kernel, by decide +kernel⟩
theorem fwX2_9 : Cond.fieldLink "ProperFollow$Draws" 9 (kT2 0).1 (kT2 0).2.1 (kT2 0).2.2.1 ∈ zWS := zWS_in (List.mem_of_getElem? (i := 449) (by decide +kernel)) (by decide +kernel)
theorem flX2_9 : zfld "ProperFollow$Draws" 9 2 0 := ⟨kR2, kT2, 1, rfl, ki2, by decide, fwX2_9⟩
theorem fpX2_9 : zfldP "ProperFollow$Draws" 9 2 0 .int := ⟨kR2, kT2, 1, kt2, rfl, ki2, by decide, fwX2_9, kk2, kn2, by decide +kernel, by decide +kernel⟩
theorem fwX3_16 : Cond.fieldLink "ProperFollow$History" 16 (kT3 2).1 (kT3 2).2.1 (kT3 2).2.2.1 ∈ zWS := zWS_in (List.mem_of_getElem? (i := 376) (by decide +kernel)) (by decide +kernel)
theorem flX3_16 : zfld "ProperFollow$History" 16 3 2 := ⟨kR3, kT3, 3, rfl, ki3, by decide, fwX3_16⟩
theorem fpX3_16 : zfldP "ProperFollow$History" 16 3 2 .int := ⟨kR3, kT3, 3, kt3, rfl, ki3, by decide, fwX3_16, kk3, kn3, by decide +kernel, by decide +kernel⟩
theorem fwX5_11 : Cond.fieldLink "ProperFollow$Line" 11 (kT5 0).1 (kT5 0).2.1 (kT5 0).2.2.1 ∈ zWS := zWS_in (List.mem_of_getElem? (i := 459) (by decide +kernel)) (by decide +kernel)
theorem flX5_11 : zfld "ProperFollow$Line" 11 5 0 := ⟨kR5, kT5, 2, rfl, ki5, by decide, fwX5_11⟩
theorem fwX5_15 : Cond.fieldLink "ProperFollow$Line" 15 (kT5 1).1 (kT5 1).2.1 (kT5 1).2.2.1 ∈ zWS := zWS_in (List.mem_of_getElem? (i := 460) (by decide +kernel)) (by decide +kernel)
theorem flX5_15 : zfld "ProperFollow$Line" 15 5 1 := ⟨kR5, kT5, 2, rfl, ki5, by decide, fwX5_15⟩
theorem fpX5_15 : zfldP "ProperFollow$Line" 15 5 1 .int := ⟨kR5, kT5, 2, kt5, rfl, ki5, by decide, fwX5_15, kk5, kn5, by decide +kernel, by decide +kernel⟩
theorem fwX6_9 : Cond.fieldLink "ProperFollow$Pairing" 9 (kT6 0).1 (kT6 0).2.1 (kT6 0).2.2.1 ∈ zWS := zWS_in (List.mem_of_getElem? (i := 430) (by decide +kernel)) (by decide +kernel)
theorem flX6_9 : zfld "ProperFollow$Pairing" 9 6 0 := ⟨kR6, kT6, 4, rfl, ki6, by decide, fwX6_9⟩
theorem fwX6_15 : Cond.fieldLink "ProperFollow$Pairing" 15 (kT6 1).1 (kT6 1).2.1 (kT6 1).2.2.1 ∈ zWS := zWS_in (List.mem_of_getElem? (i := 431) (by decide +kernel)) (by decide +kernel)
theorem flX6_15 : zfld "ProperFollow$Pairing" 15 6 1 := ⟨kR6, kT6, 4, rfl, ki6, by decide, fwX6_15⟩
theorem fwX6_18 : Cond.fieldLink "ProperFollow$Pairing" 18 (kT6 2).1 (kT6 2).2.1 (kT6 2).2.2.1 ∈ zWS := zWS_in (List.mem_of_getElem? (i := 432) (by decide +kernel)) (by decide +kernel)
theorem flX6_18 : zfld "ProperFollow$Pairing" 18 6 2 := ⟨kR6, kT6, 4, rfl, ki6, by decide, fwX6_18⟩
theorem fpX6_18 : zfldP "ProperFollow$Pairing" 18 6 2 .int := ⟨kR6, kT6, 4, kt6, rfl, ki6, by decide, fwX6_18, kk6, kn6, by decide +kernel, by decide +kernel⟩
theorem fwX6_22 : Cond.fieldLink "ProperFollow$Pairing" 22 (kT6 3).1 (kT6 3).2.1 (kT6 3).2.2.1 ∈ zWS := zWS_in (List.mem_of_getElem? (i := 433) (by decide +kernel)) (by decide +kernel)
theorem flX6_22 : zfld "ProperFollow$Pairing" 22 6 3 := ⟨kR6, kT6, 4, rfl, ki6, by decide, fwX6_22⟩
theorem fpX6_22 : zfldP "ProperFollow$Pairing" 22 6 3 .int := ⟨kR6, kT6, 4, kt6, rfl, ki6, by decide, fwX6_22, kk6, kn6, by decide +kernel, by decide +kernel⟩
theorem fwX7_9 : Cond.fieldLink "ProperFollow$Plan" 9 (kT7 0).1 (kT7 0).2.1 (kT7 0).2.2.1 ∈ zWS := zWS_in (List.mem_of_getElem? (i := 260) (by decide +kernel)) (by decide +kernel)
theorem flX7_9 : zfld "ProperFollow$Plan" 9 7 0 := ⟨kR7, kT7, 7, rfl, ki7, by decide, fwX7_9⟩
theorem fwX7_15 : Cond.fieldLink "ProperFollow$Plan" 15 (kT7 1).1 (kT7 1).2.1 (kT7 1).2.2.1 ∈ zWS := zWS_in (List.mem_of_getElem? (i := 261) (by decide +kernel)) (by decide +kernel)
theorem flX7_15 : zfld "ProperFollow$Plan" 15 7 1 := ⟨kR7, kT7, 7, rfl, ki7, by decide, fwX7_15⟩
theorem fwX7_18 : Cond.fieldLink "ProperFollow$Plan" 18 (kT7 2).1 (kT7 2).2.1 (kT7 2).2.2.1 ∈ zWS := zWS_in (List.mem_of_getElem? (i := 262) (by decide +kernel)) (by decide +kernel)
theorem flX7_18 : zfld "ProperFollow$Plan" 18 7 2 := ⟨kR7, kT7, 7, rfl, ki7, by decide, fwX7_18⟩
theorem fwX7_22 : Cond.fieldLink "ProperFollow$Plan" 22 (kT7 3).1 (kT7 3).2.1 (kT7 3).2.2.1 ∈ zWS := zWS_in (List.mem_of_getElem? (i := 263) (by decide +kernel)) (by decide +kernel)
theorem flX7_22 : zfld "ProperFollow$Plan" 22 7 3 := ⟨kR7, kT7, 7, rfl, ki7, by decide, fwX7_22⟩
theorem fwX7_25 : Cond.fieldLink "ProperFollow$Plan" 25 (kT7 4).1 (kT7 4).2.1 (kT7 4).2.2.1 ∈ zWS := zWS_in (List.mem_of_getElem? (i := 264) (by decide +kernel)) (by decide +kernel)
theorem flX7_25 : zfld "ProperFollow$Plan" 25 7 4 := ⟨kR7, kT7, 7, rfl, ki7, by decide, fwX7_25⟩
theorem fpX7_25 : zfldP "ProperFollow$Plan" 25 7 4 .int := ⟨kR7, kT7, 7, kt7, rfl, ki7, by decide, fwX7_25, kk7, kn7, by decide +kernel, by decide +kernel⟩
theorem fwX7_29 : Cond.fieldLink "ProperFollow$Plan" 29 (kT7 5).1 (kT7 5).2.1 (kT7 5).2.2.1 ∈ zWS := zWS_in (List.mem_of_getElem? (i := 265) (by decide +kernel)) (by decide +kernel)
theorem flX7_29 : zfld "ProperFollow$Plan" 29 7 5 := ⟨kR7, kT7, 7, rfl, ki7, by decide, fwX7_29⟩
theorem fpX7_29 : zfldP "ProperFollow$Plan" 29 7 5 .int := ⟨kR7, kT7, 7, kt7, rfl, ki7, by decide, fwX7_29, kk7, kn7, by decide +kernel, by decide +kernel⟩
theorem fwX7_32 : Cond.fieldLink "ProperFollow$Plan" 32 (kT7 6).1 (kT7 6).2.1 (kT7 6).2.2.1 ∈ zWS := zWS_in (List.mem_of_getElem? (i := 266) (by decide +kernel)) (by decide +kernel)
theorem flX7_32 : zfld "ProperFollow$Plan" 32 7 6 := ⟨kR7, kT7, 7, rfl, ki7, by decide, fwX7_32⟩
theorem fpX7_32 : zfldP "ProperFollow$Plan" 32 7 6 .int := ⟨kR7, kT7, 7, kt7, rfl, ki7, by decide, fwX7_32, kk7, kn7, by decide +kernel, by decide +kernel⟩
theorem fwX8_15 : Cond.fieldLink "ProperFollow$Reader" 15 (kT8 1).1 (kT8 1).2.1 (kT8 1).2.2.1 ∈ zWS := zWS_in (List.mem_of_getElem? (i := 225) (by decide +kernel)) (by decide +kernel)
theorem flX8_15 : zfld "ProperFollow$Reader" 15 8 1 := ⟨kR8, kT8, 9, rfl, ki8, by decide, fwX8_15⟩
theorem fwX8_19 : Cond.fieldLink "ProperFollow$Reader" 19 (kT8 0).1 (kT8 0).2.1 (kT8 0).2.2.1 ∈ zWS := zWS_in (List.mem_of_getElem? (i := 224) (by decide +kernel)) (by decide +kernel)
theorem flX8_19 : zfld "ProperFollow$Reader" 19 8 0 := ⟨kR8, kT8, 9, rfl, ki8, by decide, fwX8_19⟩
theorem fwX8_41 : Cond.fieldLink "ProperFollow$Reader" 41 (kT8 2).1 (kT8 2).2.1 (kT8 2).2.2.1 ∈ zWS := zWS_in (List.mem_of_getElem? (i := 226) (by decide +kernel)) (by decide +kernel)
theorem flX8_41 : zfld "ProperFollow$Reader" 41 8 2 := ⟨kR8, kT8, 9, rfl, ki8, by decide, fwX8_41⟩
theorem fpX8_41 : zfldP "ProperFollow$Reader" 41 8 2 .int := ⟨kR8, kT8, 9, kt8, rfl, ki8, by decide, fwX8_41, kk8, kn8, by decide +kernel, by decide +kernel⟩
theorem fwX8_45 : Cond.fieldLink "ProperFollow$Reader" 45 (kT8 4).1 (kT8 4).2.1 (kT8 4).2.2.1 ∈ zWS := zWS_in (List.mem_of_getElem? (i := 228) (by decide +kernel)) (by decide +kernel)
theorem flX8_45 : zfld "ProperFollow$Reader" 45 8 4 := ⟨kR8, kT8, 9, rfl, ki8, by decide, fwX8_45⟩
theorem fpX8_45 : zfldP "ProperFollow$Reader" 45 8 4 .int := ⟨kR8, kT8, 9, kt8, rfl, ki8, by decide, fwX8_45, kk8, kn8, by decide +kernel, by decide +kernel⟩
theorem fwX8_48 : Cond.fieldLink "ProperFollow$Reader" 48 (kT8 8).1 (kT8 8).2.1 (kT8 8).2.2.1 ∈ zWS := zWS_in (List.mem_of_getElem? (i := 232) (by decide +kernel)) (by decide +kernel)
theorem flX8_48 : zfld "ProperFollow$Reader" 48 8 8 := ⟨kR8, kT8, 9, rfl, ki8, by decide, fwX8_48⟩
theorem fpX8_48 : zfldP "ProperFollow$Reader" 48 8 8 .int := ⟨kR8, kT8, 9, kt8, rfl, ki8, by decide, fwX8_48, kk8, kn8, by decide +kernel, by decide +kernel⟩
theorem fwX8_54 : Cond.fieldLink "ProperFollow$Reader" 54 (kT8 3).1 (kT8 3).2.1 (kT8 3).2.2.1 ∈ zWS := zWS_in (List.mem_of_getElem? (i := 227) (by decide +kernel)) (by decide +kernel)
theorem flX8_54 : zfld "ProperFollow$Reader" 54 8 3 := ⟨kR8, kT8, 9, rfl, ki8, by decide, fwX8_54⟩
theorem fpX8_54 : zfldP "ProperFollow$Reader" 54 8 3 .int := ⟨kR8, kT8, 9, kt8, rfl, ki8, by decide, fwX8_54, kk8, kn8, by decide +kernel, by decide +kernel⟩
theorem fwX8_57 : Cond.fieldLink "ProperFollow$Reader" 57 (kT8 5).1 (kT8 5).2.1 (kT8 5).2.2.1 ∈ zWS := zWS_in (List.mem_of_getElem? (i := 229) (by decide +kernel)) (by decide +kernel)
theorem flX8_57 : zfld "ProperFollow$Reader" 57 8 5 := ⟨kR8, kT8, 9, rfl, ki8, by decide, fwX8_57⟩
theorem fpX8_57 : zfldP "ProperFollow$Reader" 57 8 5 .int := ⟨kR8, kT8, 9, kt8, rfl, ki8, by decide, fwX8_57, kk8, kn8, by decide +kernel, by decide +kernel⟩
theorem fwX8_60 : Cond.fieldLink "ProperFollow$Reader" 60 (kT8 6).1 (kT8 6).2.1 (kT8 6).2.2.1 ∈ zWS := zWS_in (List.mem_of_getElem? (i := 230) (by decide +kernel)) (by decide +kernel)
theorem flX8_60 : zfld "ProperFollow$Reader" 60 8 6 := ⟨kR8, kT8, 9, rfl, ki8, by decide, fwX8_60⟩
theorem fpX8_60 : zfldP "ProperFollow$Reader" 60 8 6 .long := ⟨kR8, kT8, 9, kt8, rfl, ki8, by decide, fwX8_60, kk8, kn8, by decide +kernel, by decide +kernel⟩
theorem fwX8_84 : Cond.fieldLink "ProperFollow$Reader" 84 (kT8 7).1 (kT8 7).2.1 (kT8 7).2.2.1 ∈ zWS := zWS_in (List.mem_of_getElem? (i := 231) (by decide +kernel)) (by decide +kernel)
theorem flX8_84 : zfld "ProperFollow$Reader" 84 8 7 := ⟨kR8, kT8, 9, rfl, ki8, by decide, fwX8_84⟩
theorem fpX8_84 : zfldP "ProperFollow$Reader" 84 8 7 .int := ⟨kR8, kT8, 9, kt8, rfl, ki8, by decide, fwX8_84, kk8, kn8, by decide +kernel, by decide +kernel⟩
theorem fwX9_11 : Cond.fieldLink "ProperFollow$Sentence" 11 (kT9 0).1 (kT9 0).2.1 (kT9 0).2.2.1 ∈ zWS := zWS_in (List.mem_of_getElem? (i := 331) (by decide +kernel)) (by decide +kernel)
theorem flX9_11 : zfld "ProperFollow$Sentence" 11 9 0 := ⟨kR9, kT9, 11, rfl, ki9, by decide, fwX9_11⟩
theorem fwX9_15 : Cond.fieldLink "ProperFollow$Sentence" 15 (kT9 1).1 (kT9 1).2.1 (kT9 1).2.2.1 ∈ zWS := zWS_in (List.mem_of_getElem? (i := 332) (by decide +kernel)) (by decide +kernel)
theorem flX9_15 : zfld "ProperFollow$Sentence" 15 9 1 := ⟨kR9, kT9, 11, rfl, ki9, by decide, fwX9_15⟩
theorem fwX9_18 : Cond.fieldLink "ProperFollow$Sentence" 18 (kT9 2).1 (kT9 2).2.1 (kT9 2).2.2.1 ∈ zWS := zWS_in (List.mem_of_getElem? (i := 333) (by decide +kernel)) (by decide +kernel)
theorem flX9_18 : zfld "ProperFollow$Sentence" 18 9 2 := ⟨kR9, kT9, 11, rfl, ki9, by decide, fwX9_18⟩
theorem fwX9_21 : Cond.fieldLink "ProperFollow$Sentence" 21 (kT9 3).1 (kT9 3).2.1 (kT9 3).2.2.1 ∈ zWS := zWS_in (List.mem_of_getElem? (i := 334) (by decide +kernel)) (by decide +kernel)
theorem flX9_21 : zfld "ProperFollow$Sentence" 21 9 3 := ⟨kR9, kT9, 11, rfl, ki9, by decide, fwX9_21⟩
theorem fwX9_24 : Cond.fieldLink "ProperFollow$Sentence" 24 (kT9 4).1 (kT9 4).2.1 (kT9 4).2.2.1 ∈ zWS := zWS_in (List.mem_of_getElem? (i := 335) (by decide +kernel)) (by decide +kernel)
theorem flX9_24 : zfld "ProperFollow$Sentence" 24 9 4 := ⟨kR9, kT9, 11, rfl, ki9, by decide, fwX9_24⟩
theorem fwX9_27 : Cond.fieldLink "ProperFollow$Sentence" 27 (kT9 10).1 (kT9 10).2.1 (kT9 10).2.2.1 ∈ zWS := zWS_in (List.mem_of_getElem? (i := 341) (by decide +kernel)) (by decide +kernel)
theorem flX9_27 : zfld "ProperFollow$Sentence" 27 9 10 := ⟨kR9, kT9, 11, rfl, ki9, by decide, fwX9_27⟩
theorem fpX9_27 : zfldP "ProperFollow$Sentence" 27 9 10 .boolean := ⟨kR9, kT9, 11, kt9, rfl, ki9, by decide, fwX9_27, kk9, kn9, by decide +kernel, by decide +kernel⟩
theorem fwX9_31 : Cond.fieldLink "ProperFollow$Sentence" 31 (kT9 8).1 (kT9 8).2.1 (kT9 8).2.2.1 ∈ zWS := zWS_in (List.mem_of_getElem? (i := 339) (by decide +kernel)) (by decide +kernel)
theorem flX9_31 : zfld "ProperFollow$Sentence" 31 9 8 := ⟨kR9, kT9, 11, rfl, ki9, by decide, fwX9_31⟩
theorem fpX9_31 : zfldP "ProperFollow$Sentence" 31 9 8 .int := ⟨kR9, kT9, 11, kt9, rfl, ki9, by decide, fwX9_31, kk9, kn9, by decide +kernel, by decide +kernel⟩
theorem fwX9_35 : Cond.fieldLink "ProperFollow$Sentence" 35 (kT9 5).1 (kT9 5).2.1 (kT9 5).2.2.1 ∈ zWS := zWS_in (List.mem_of_getElem? (i := 336) (by decide +kernel)) (by decide +kernel)
theorem flX9_35 : zfld "ProperFollow$Sentence" 35 9 5 := ⟨kR9, kT9, 11, rfl, ki9, by decide, fwX9_35⟩
theorem fpX9_35 : zfldP "ProperFollow$Sentence" 35 9 5 .int := ⟨kR9, kT9, 11, kt9, rfl, ki9, by decide, fwX9_35, kk9, kn9, by decide +kernel, by decide +kernel⟩
theorem fwX9_38 : Cond.fieldLink "ProperFollow$Sentence" 38 (kT9 6).1 (kT9 6).2.1 (kT9 6).2.2.1 ∈ zWS := zWS_in (List.mem_of_getElem? (i := 337) (by decide +kernel)) (by decide +kernel)
theorem flX9_38 : zfld "ProperFollow$Sentence" 38 9 6 := ⟨kR9, kT9, 11, rfl, ki9, by decide, fwX9_38⟩
theorem fpX9_38 : zfldP "ProperFollow$Sentence" 38 9 6 .int := ⟨kR9, kT9, 11, kt9, rfl, ki9, by decide, fwX9_38, kk9, kn9, by decide +kernel, by decide +kernel⟩
theorem fwX9_41 : Cond.fieldLink "ProperFollow$Sentence" 41 (kT9 7).1 (kT9 7).2.1 (kT9 7).2.2.1 ∈ zWS := zWS_in (List.mem_of_getElem? (i := 338) (by decide +kernel)) (by decide +kernel)
theorem flX9_41 : zfld "ProperFollow$Sentence" 41 9 7 := ⟨kR9, kT9, 11, rfl, ki9, by decide, fwX9_41⟩
theorem fpX9_41 : zfldP "ProperFollow$Sentence" 41 9 7 .int := ⟨kR9, kT9, 11, kt9, rfl, ki9, by decide, fwX9_41, kk9, kn9, by decide +kernel, by decide +kernel⟩
theorem fwX9_53 : Cond.fieldLink "ProperFollow$Sentence" 53 (kT9 9).1 (kT9 9).2.1 (kT9 9).2.2.1 ∈ zWS := zWS_in (List.mem_of_getElem? (i := 340) (by decide +kernel)) (by decide +kernel)
theorem flX9_53 : zfld "ProperFollow$Sentence" 53 9 9 := ⟨kR9, kT9, 11, rfl, ki9, by decide, fwX9_53⟩
theorem fpX9_53 : zfldP "ProperFollow$Sentence" 53 9 9 .boolean := ⟨kR9, kT9, 11, kt9, rfl, ki9, by decide, fwX9_53, kk9, kn9, by decide +kernel, by decide +kernel⟩
theorem fwX10_11 : Cond.fieldLink "ProperFollow$Tape" 11 (kT10 0).1 (kT10 0).2.1 (kT10 0).2.2.1 ∈ zWS := zWS_in (List.mem_of_getElem? (i := 154) (by decide +kernel)) (by decide +kernel)
theorem flX10_11 : zfld "ProperFollow$Tape" 11 10 0 := ⟨kR10, kT10, 2, rfl, ki10, by decide, fwX10_11⟩
theorem fwX10_15 : Cond.fieldLink "ProperFollow$Tape" 15 (kT10 1).1 (kT10 1).2.1 (kT10 1).2.2.1 ∈ zWS := zWS_in (List.mem_of_getElem? (i := 155) (by decide +kernel)) (by decide +kernel)
theorem flX10_15 : zfld "ProperFollow$Tape" 15 10 1 := ⟨kR10, kT10, 2, rfl, ki10, by decide, fwX10_15⟩
theorem fpX10_15 : zfldP "ProperFollow$Tape" 15 10 1 .int := ⟨kR10, kT10, 2, kt10, rfl, ki10, by decide, fwX10_15, kk10, kn10, by decide +kernel, by decide +kernel⟩
theorem fwX12_1 : Cond.fieldLink "ProperFollowModel" 1 (kT12 0).1 (kT12 0).2.1 (kT12 0).2.2.1 ∈ zWS := zWS_in (List.mem_of_getElem? (i := 1530) (by decide +kernel)) (by decide +kernel)
theorem flX12_1 : zfld "ProperFollowModel" 1 12 0 := ⟨kR12, kT12, 53, rfl, ki12, by decide, fwX12_1⟩
theorem fpX12_1 : zfldP "ProperFollowModel" 1 12 0 .int := ⟨kR12, kT12, 53, kt12, rfl, ki12, by decide, fwX12_1, kk12, kn12, by decide +kernel, by decide +kernel⟩
theorem fwX12_7 : Cond.fieldLink "ProperFollowModel" 7 (kT12 2).1 (kT12 2).2.1 (kT12 2).2.2.1 ∈ zWS := zWS_in (List.mem_of_getElem? (i := 1532) (by decide +kernel)) (by decide +kernel)
theorem flX12_7 : zfld "ProperFollowModel" 7 12 2 := ⟨kR12, kT12, 53, rfl, ki12, by decide, fwX12_7⟩
theorem fpX12_7 : zfldP "ProperFollowModel" 7 12 2 .int := ⟨kR12, kT12, 53, kt12, rfl, ki12, by decide, fwX12_7, kk12, kn12, by decide +kernel, by decide +kernel⟩
theorem fwX12_14 : Cond.fieldLink "ProperFollowModel" 14 (kT12 1).1 (kT12 1).2.1 (kT12 1).2.2.1 ∈ zWS := zWS_in (List.mem_of_getElem? (i := 1531) (by decide +kernel)) (by decide +kernel)
theorem flX12_14 : zfld "ProperFollowModel" 14 12 1 := ⟨kR12, kT12, 53, rfl, ki12, by decide, fwX12_14⟩
theorem fwX12_18 : Cond.fieldLink "ProperFollowModel" 18 (kT12 3).1 (kT12 3).2.1 (kT12 3).2.2.1 ∈ zWS := zWS_in (List.mem_of_getElem? (i := 1533) (by decide +kernel)) (by decide +kernel)
theorem flX12_18 : zfld "ProperFollowModel" 18 12 3 := ⟨kR12, kT12, 53, rfl, ki12, by decide, fwX12_18⟩
theorem fpX12_18 : zfldP "ProperFollowModel" 18 12 3 .int := ⟨kR12, kT12, 53, kt12, rfl, ki12, by decide, fwX12_18, kk12, kn12, by decide +kernel, by decide +kernel⟩
theorem fwX12_21 : Cond.fieldLink "ProperFollowModel" 21 (kT12 4).1 (kT12 4).2.1 (kT12 4).2.2.1 ∈ zWS := zWS_in (List.mem_of_getElem? (i := 1534) (by decide +kernel)) (by decide +kernel)
theorem flX12_21 : zfld "ProperFollowModel" 21 12 4 := ⟨kR12, kT12, 53, rfl, ki12, by decide, fwX12_21⟩
theorem fpX12_21 : zfldP "ProperFollowModel" 21 12 4 .int := ⟨kR12, kT12, 53, kt12, rfl, ki12, by decide, fwX12_21, kk12, kn12, by decide +kernel, by decide +kernel⟩
theorem fwX12_24 : Cond.fieldLink "ProperFollowModel" 24 (kT12 5).1 (kT12 5).2.1 (kT12 5).2.2.1 ∈ zWS := zWS_in (List.mem_of_getElem? (i := 1535) (by decide +kernel)) (by decide +kernel)
theorem flX12_24 : zfld "ProperFollowModel" 24 12 5 := ⟨kR12, kT12, 53, rfl, ki12, by decide, fwX12_24⟩
theorem fpX12_24 : zfldP "ProperFollowModel" 24 12 5 .int := ⟨kR12, kT12, 53, kt12, rfl, ki12, by decide, fwX12_24, kk12, kn12, by decide +kernel, by decide +kernel⟩
theorem fwX12_33 : Cond.fieldLink "ProperFollowModel" 33 (kT12 6).1 (kT12 6).2.1 (kT12 6).2.2.1 ∈ zWS := zWS_in (List.mem_of_getElem? (i := 1536) (by decide +kernel)) (by decide +kernel)
theorem flX12_33 : zfld "ProperFollowModel" 33 12 6 := ⟨kR12, kT12, 53, rfl, ki12, by decide, fwX12_33⟩
theorem fwX12_37 : Cond.fieldLink "ProperFollowModel" 37 (kT12 7).1 (kT12 7).2.1 (kT12 7).2.2.1 ∈ zWS := zWS_in (List.mem_of_getElem? (i := 1537) (by decide +kernel)) (by decide +kernel)
theorem flX12_37 : zfld "ProperFollowModel" 37 12 7 := ⟨kR12, kT12, 53, rfl, ki12, by decide, fwX12_37⟩
theorem fwX12_40 : Cond.fieldLink "ProperFollowModel" 40 (kT12 8).1 (kT12 8).2.1 (kT12 8).2.2.1 ∈ zWS := zWS_in (List.mem_of_getElem? (i := 1538) (by decide +kernel)) (by decide +kernel)
theorem flX12_40 : zfld "ProperFollowModel" 40 12 8 := ⟨kR12, kT12, 53, rfl, ki12, by decide, fwX12_40⟩
theorem fwX12_43 : Cond.fieldLink "ProperFollowModel" 43 (kT12 9).1 (kT12 9).2.1 (kT12 9).2.2.1 ∈ zWS := zWS_in (List.mem_of_getElem? (i := 1539) (by decide +kernel)) (by decide +kernel)
theorem flX12_43 : zfld "ProperFollowModel" 43 12 9 := ⟨kR12, kT12, 53, rfl, ki12, by decide, fwX12_43⟩
theorem fwX12_47 : Cond.fieldLink "ProperFollowModel" 47 (kT12 10).1 (kT12 10).2.1 (kT12 10).2.2.1 ∈ zWS := zWS_in (List.mem_of_getElem? (i := 1540) (by decide +kernel)) (by decide +kernel)
theorem flX12_47 : zfld "ProperFollowModel" 47 12 10 := ⟨kR12, kT12, 53, rfl, ki12, by decide, fwX12_47⟩
theorem fwX12_50 : Cond.fieldLink "ProperFollowModel" 50 (kT12 20).1 (kT12 20).2.1 (kT12 20).2.2.1 ∈ zWS := zWS_in (List.mem_of_getElem? (i := 1550) (by decide +kernel)) (by decide +kernel)
theorem flX12_50 : zfld "ProperFollowModel" 50 12 20 := ⟨kR12, kT12, 53, rfl, ki12, by decide, fwX12_50⟩
theorem fwX12_53 : Cond.fieldLink "ProperFollowModel" 53 (kT12 21).1 (kT12 21).2.1 (kT12 21).2.2.1 ∈ zWS := zWS_in (List.mem_of_getElem? (i := 1551) (by decide +kernel)) (by decide +kernel)
theorem flX12_53 : zfld "ProperFollowModel" 53 12 21 := ⟨kR12, kT12, 53, rfl, ki12, by decide, fwX12_53⟩
theorem fwX12_56 : Cond.fieldLink "ProperFollowModel" 56 (kT12 22).1 (kT12 22).2.1 (kT12 22).2.2.1 ∈ zWS := zWS_in (List.mem_of_getElem? (i := 1552) (by decide +kernel)) (by decide +kernel)
theorem flX12_56 : zfld "ProperFollowModel" 56 12 22 := ⟨kR12, kT12, 53, rfl, ki12, by decide, fwX12_56⟩
theorem fwX12_59 : Cond.fieldLink "ProperFollowModel" 59 (kT12 23).1 (kT12 23).2.1 (kT12 23).2.2.1 ∈ zWS := zWS_in (List.mem_of_getElem? (i := 1553) (by decide +kernel)) (by decide +kernel)
theorem flX12_59 : zfld "ProperFollowModel" 59 12 23 := ⟨kR12, kT12, 53, rfl, ki12, by decide, fwX12_59⟩
theorem fwX12_62 : Cond.fieldLink "ProperFollowModel" 62 (kT12 29).1 (kT12 29).2.1 (kT12 29).2.2.1 ∈ zWS := zWS_in (List.mem_of_getElem? (i := 1559) (by decide +kernel)) (by decide +kernel)
theorem flX12_62 : zfld "ProperFollowModel" 62 12 29 := ⟨kR12, kT12, 53, rfl, ki12, by decide, fwX12_62⟩
theorem fwX12_65 : Cond.fieldLink "ProperFollowModel" 65 (kT12 30).1 (kT12 30).2.1 (kT12 30).2.2.1 ∈ zWS := zWS_in (List.mem_of_getElem? (i := 1560) (by decide +kernel)) (by decide +kernel)
theorem flX12_65 : zfld "ProperFollowModel" 65 12 30 := ⟨kR12, kT12, 53, rfl, ki12, by decide, fwX12_65⟩
theorem fpX12_65 : zfldP "ProperFollowModel" 65 12 30 .int := ⟨kR12, kT12, 53, kt12, rfl, ki12, by decide, fwX12_65, kk12, kn12, by decide +kernel, by decide +kernel⟩
theorem fwX12_68 : Cond.fieldLink "ProperFollowModel" 68 (kT12 33).1 (kT12 33).2.1 (kT12 33).2.2.1 ∈ zWS := zWS_in (List.mem_of_getElem? (i := 1563) (by decide +kernel)) (by decide +kernel)
theorem flX12_68 : zfld "ProperFollowModel" 68 12 33 := ⟨kR12, kT12, 53, rfl, ki12, by decide, fwX12_68⟩
theorem fwX12_71 : Cond.fieldLink "ProperFollowModel" 71 (kT12 34).1 (kT12 34).2.1 (kT12 34).2.2.1 ∈ zWS := zWS_in (List.mem_of_getElem? (i := 1564) (by decide +kernel)) (by decide +kernel)
theorem flX12_71 : zfld "ProperFollowModel" 71 12 34 := ⟨kR12, kT12, 53, rfl, ki12, by decide, fwX12_71⟩
theorem fwX12_74 : Cond.fieldLink "ProperFollowModel" 74 (kT12 35).1 (kT12 35).2.1 (kT12 35).2.2.1 ∈ zWS := zWS_in (List.mem_of_getElem? (i := 1565) (by decide +kernel)) (by decide +kernel)
theorem flX12_74 : zfld "ProperFollowModel" 74 12 35 := ⟨kR12, kT12, 53, rfl, ki12, by decide, fwX12_74⟩
theorem fpX12_74 : zfldP "ProperFollowModel" 74 12 35 .int := ⟨kR12, kT12, 53, kt12, rfl, ki12, by decide, fwX12_74, kk12, kn12, by decide +kernel, by decide +kernel⟩
theorem fwX12_77 : Cond.fieldLink "ProperFollowModel" 77 (kT12 37).1 (kT12 37).2.1 (kT12 37).2.2.1 ∈ zWS := zWS_in (List.mem_of_getElem? (i := 1567) (by decide +kernel)) (by decide +kernel)
theorem flX12_77 : zfld "ProperFollowModel" 77 12 37 := ⟨kR12, kT12, 53, rfl, ki12, by decide, fwX12_77⟩
theorem fwX12_80 : Cond.fieldLink "ProperFollowModel" 80 (kT12 41).1 (kT12 41).2.1 (kT12 41).2.2.1 ∈ zWS := zWS_in (List.mem_of_getElem? (i := 1571) (by decide +kernel)) (by decide +kernel)
theorem flX12_80 : zfld "ProperFollowModel" 80 12 41 := ⟨kR12, kT12, 53, rfl, ki12, by decide, fwX12_80⟩
theorem fwX12_83 : Cond.fieldLink "ProperFollowModel" 83 (kT12 43).1 (kT12 43).2.1 (kT12 43).2.2.1 ∈ zWS := zWS_in (List.mem_of_getElem? (i := 1573) (by decide +kernel)) (by decide +kernel)
theorem flX12_83 : zfld "ProperFollowModel" 83 12 43 := ⟨kR12, kT12, 53, rfl, ki12, by decide, fwX12_83⟩
theorem fwX12_86 : Cond.fieldLink "ProperFollowModel" 86 (kT12 49).1 (kT12 49).2.1 (kT12 49).2.2.1 ∈ zWS := zWS_in (List.mem_of_getElem? (i := 1579) (by decide +kernel)) (by decide +kernel)
theorem flX12_86 : zfld "ProperFollowModel" 86 12 49 := ⟨kR12, kT12, 53, rfl, ki12, by decide, fwX12_86⟩
theorem fwX12_90 : Cond.fieldLink "ProperFollowModel" 90 (kT12 50).1 (kT12 50).2.1 (kT12 50).2.2.1 ∈ zWS := zWS_in (List.mem_of_getElem? (i := 1580) (by decide +kernel)) (by decide +kernel)
theorem flX12_90 : zfld "ProperFollowModel" 90 12 50 := ⟨kR12, kT12, 53, rfl, ki12, by decide, fwX12_90⟩
theorem fwX12_93 : Cond.fieldLink "ProperFollowModel" 93 (kT12 51).1 (kT12 51).2.1 (kT12 51).2.2.1 ∈ zWS := zWS_in (List.mem_of_getElem? (i := 1581) (by decide +kernel)) (by decide +kernel)
theorem flX12_93 : zfld "ProperFollowModel" 93 12 51 := ⟨kR12, kT12, 53, rfl, ki12, by decide, fwX12_93⟩
theorem fwX12_96 : Cond.fieldLink "ProperFollowModel" 96 (kT12 52).1 (kT12 52).2.1 (kT12 52).2.2.1 ∈ zWS := zWS_in (List.mem_of_getElem? (i := 1582) (by decide +kernel)) (by decide +kernel)
theorem flX12_96 : zfld "ProperFollowModel" 96 12 52 := ⟨kR12, kT12, 53, rfl, ki12, by decide, fwX12_96⟩
theorem fwX12_150 : Cond.fieldLink "ProperFollowModel" 150 (kT12 12).1 (kT12 12).2.1 (kT12 12).2.2.1 ∈ zWS := zWS_in (List.mem_of_getElem? (i := 1542) (by decide +kernel)) (by decide +kernel)
theorem flX12_150 : zfld "ProperFollowModel" 150 12 12 := ⟨kR12, kT12, 53, rfl, ki12, by decide, fwX12_150⟩
theorem fpX12_150 : zfldP "ProperFollowModel" 150 12 12 .int := ⟨kR12, kT12, 53, kt12, rfl, ki12, by decide, fwX12_150, kk12, kn12, by decide +kernel, by decide +kernel⟩
theorem fwX12_153 : Cond.fieldLink "ProperFollowModel" 153 (kT12 13).1 (kT12 13).2.1 (kT12 13).2.2.1 ∈ zWS := zWS_in (List.mem_of_getElem? (i := 1543) (by decide +kernel)) (by decide +kernel)
theorem flX12_153 : zfld "ProperFollowModel" 153 12 13 := ⟨kR12, kT12, 53, rfl, ki12, by decide, fwX12_153⟩
theorem fpX12_153 : zfldP "ProperFollowModel" 153 12 13 .int := ⟨kR12, kT12, 53, kt12, rfl, ki12, by decide, fwX12_153, kk12, kn12, by decide +kernel, by decide +kernel⟩
theorem fwX12_156 : Cond.fieldLink "ProperFollowModel" 156 (kT12 11).1 (kT12 11).2.1 (kT12 11).2.2.1 ∈ zWS := zWS_in (List.mem_of_getElem? (i := 1541) (by decide +kernel)) (by decide +kernel)
theorem flX12_156 : zfld "ProperFollowModel" 156 12 11 := ⟨kR12, kT12, 53, rfl, ki12, by decide, fwX12_156⟩
theorem fpX12_156 : zfldP "ProperFollowModel" 156 12 11 .int := ⟨kR12, kT12, 53, kt12, rfl, ki12, by decide, fwX12_156, kk12, kn12, by decide +kernel, by decide +kernel⟩
theorem fwX12_166 : Cond.fieldLink "ProperFollowModel" 166 (kT12 14).1 (kT12 14).2.1 (kT12 14).2.2.1 ∈ zWS := zWS_in (List.mem_of_getElem? (i := 1544) (by decide +kernel)) (by decide +kernel)
theorem flX12_166 : zfld "ProperFollowModel" 166 12 14 := ⟨kR12, kT12, 53, rfl, ki12, by decide, fwX12_166⟩
theorem fpX12_166 : zfldP "ProperFollowModel" 166 12 14 .int := ⟨kR12, kT12, 53, kt12, rfl, ki12, by decide, fwX12_166, kk12, kn12, by decide +kernel, by decide +kernel⟩
theorem fwX12_169 : Cond.fieldLink "ProperFollowModel" 169 (kT12 17).1 (kT12 17).2.1 (kT12 17).2.2.1 ∈ zWS := zWS_in (List.mem_of_getElem? (i := 1547) (by decide +kernel)) (by decide +kernel)
theorem flX12_169 : zfld "ProperFollowModel" 169 12 17 := ⟨kR12, kT12, 53, rfl, ki12, by decide, fwX12_169⟩
theorem fpX12_169 : zfldP "ProperFollowModel" 169 12 17 .long := ⟨kR12, kT12, 53, kt12, rfl, ki12, by decide, fwX12_169, kk12, kn12, by decide +kernel, by decide +kernel⟩
theorem fwX12_173 : Cond.fieldLink "ProperFollowModel" 173 (kT12 15).1 (kT12 15).2.1 (kT12 15).2.2.1 ∈ zWS := zWS_in (List.mem_of_getElem? (i := 1545) (by decide +kernel)) (by decide +kernel)
theorem flX12_173 : zfld "ProperFollowModel" 173 12 15 := ⟨kR12, kT12, 53, rfl, ki12, by decide, fwX12_173⟩
theorem fpX12_173 : zfldP "ProperFollowModel" 173 12 15 .int := ⟨kR12, kT12, 53, kt12, rfl, ki12, by decide, fwX12_173, kk12, kn12, by decide +kernel, by decide +kernel⟩
theorem fwX12_176 : Cond.fieldLink "ProperFollowModel" 176 (kT12 16).1 (kT12 16).2.1 (kT12 16).2.2.1 ∈ zWS := zWS_in (List.mem_of_getElem? (i := 1546) (by decide +kernel)) (by decide +kernel)
theorem flX12_176 : zfld "ProperFollowModel" 176 12 16 := ⟨kR12, kT12, 53, rfl, ki12, by decide, fwX12_176⟩
theorem fpX12_176 : zfldP "ProperFollowModel" 176 12 16 .int := ⟨kR12, kT12, 53, kt12, rfl, ki12, by decide, fwX12_176, kk12, kn12, by decide +kernel, by decide +kernel⟩
theorem fwX12_192 : Cond.fieldLink "ProperFollowModel" 192 (kT12 18).1 (kT12 18).2.1 (kT12 18).2.2.1 ∈ zWS := zWS_in (List.mem_of_getElem? (i := 1548) (by decide +kernel)) (by decide +kernel)
theorem flX12_192 : zfld "ProperFollowModel" 192 12 18 := ⟨kR12, kT12, 53, rfl, ki12, by decide, fwX12_192⟩
theorem fpX12_192 : zfldP "ProperFollowModel" 192 12 18 .int := ⟨kR12, kT12, 53, kt12, rfl, ki12, by decide, fwX12_192, kk12, kn12, by decide +kernel, by decide +kernel⟩
theorem fwX12_244 : Cond.fieldLink "ProperFollowModel" 244 (kT12 19).1 (kT12 19).2.1 (kT12 19).2.2.1 ∈ zWS := zWS_in (List.mem_of_getElem? (i := 1549) (by decide +kernel)) (by decide +kernel)
theorem flX12_244 : zfld "ProperFollowModel" 244 12 19 := ⟨kR12, kT12, 53, rfl, ki12, by decide, fwX12_244⟩
theorem fpX12_244 : zfldP "ProperFollowModel" 244 12 19 .int := ⟨kR12, kT12, 53, kt12, rfl, ki12, by decide, fwX12_244, kk12, kn12, by decide +kernel, by decide +kernel⟩
theorem fwX12_256 : Cond.fieldLink "ProperFollowModel" 256 (kT12 24).1 (kT12 24).2.1 (kT12 24).2.2.1 ∈ zWS := zWS_in (List.mem_of_getElem? (i := 1554) (by decide +kernel)) (by decide +kernel)
theorem flX12_256 : zfld "ProperFollowModel" 256 12 24 := ⟨kR12, kT12, 53, rfl, ki12, by decide, fwX12_256⟩
theorem fpX12_256 : zfldP "ProperFollowModel" 256 12 24 .int := ⟨kR12, kT12, 53, kt12, rfl, ki12, by decide, fwX12_256, kk12, kn12, by decide +kernel, by decide +kernel⟩
theorem fwX12_327 : Cond.fieldLink "ProperFollowModel" 327 (kT12 25).1 (kT12 25).2.1 (kT12 25).2.2.1 ∈ zWS := zWS_in (List.mem_of_getElem? (i := 1555) (by decide +kernel)) (by decide +kernel)
theorem flX12_327 : zfld "ProperFollowModel" 327 12 25 := ⟨kR12, kT12, 53, rfl, ki12, by decide, fwX12_327⟩
theorem fpX12_327 : zfldP "ProperFollowModel" 327 12 25 .int := ⟨kR12, kT12, 53, kt12, rfl, ki12, by decide, fwX12_327, kk12, kn12, by decide +kernel, by decide +kernel⟩
theorem fwX12_330 : Cond.fieldLink "ProperFollowModel" 330 (kT12 26).1 (kT12 26).2.1 (kT12 26).2.2.1 ∈ zWS := zWS_in (List.mem_of_getElem? (i := 1556) (by decide +kernel)) (by decide +kernel)
theorem flX12_330 : zfld "ProperFollowModel" 330 12 26 := ⟨kR12, kT12, 53, rfl, ki12, by decide, fwX12_330⟩
theorem fpX12_330 : zfldP "ProperFollowModel" 330 12 26 .boolean := ⟨kR12, kT12, 53, kt12, rfl, ki12, by decide, fwX12_330, kk12, kn12, by decide +kernel, by decide +kernel⟩
theorem fwX12_355 : Cond.fieldLink "ProperFollowModel" 355 (kT12 28).1 (kT12 28).2.1 (kT12 28).2.2.1 ∈ zWS := zWS_in (List.mem_of_getElem? (i := 1558) (by decide +kernel)) (by decide +kernel)
theorem flX12_355 : zfld "ProperFollowModel" 355 12 28 := ⟨kR12, kT12, 53, rfl, ki12, by decide, fwX12_355⟩
theorem fpX12_355 : zfldP "ProperFollowModel" 355 12 28 .boolean := ⟨kR12, kT12, 53, kt12, rfl, ki12, by decide, fwX12_355, kk12, kn12, by decide +kernel, by decide +kernel⟩
theorem fwX12_358 : Cond.fieldLink "ProperFollowModel" 358 (kT12 27).1 (kT12 27).2.1 (kT12 27).2.2.1 ∈ zWS := zWS_in (List.mem_of_getElem? (i := 1557) (by decide +kernel)) (by decide +kernel)
theorem flX12_358 : zfld "ProperFollowModel" 358 12 27 := ⟨kR12, kT12, 53, rfl, ki12, by decide, fwX12_358⟩
theorem fpX12_358 : zfldP "ProperFollowModel" 358 12 27 .int := ⟨kR12, kT12, 53, kt12, rfl, ki12, by decide, fwX12_358, kk12, kn12, by decide +kernel, by decide +kernel⟩
theorem fwX12_367 : Cond.fieldLink "ProperFollowModel" 367 (kT12 32).1 (kT12 32).2.1 (kT12 32).2.2.1 ∈ zWS := zWS_in (List.mem_of_getElem? (i := 1562) (by decide +kernel)) (by decide +kernel)
theorem flX12_367 : zfld "ProperFollowModel" 367 12 32 := ⟨kR12, kT12, 53, rfl, ki12, by decide, fwX12_367⟩
theorem fpX12_367 : zfldP "ProperFollowModel" 367 12 32 .boolean := ⟨kR12, kT12, 53, kt12, rfl, ki12, by decide, fwX12_367, kk12, kn12, by decide +kernel, by decide +kernel⟩
theorem fwX12_370 : Cond.fieldLink "ProperFollowModel" 370 (kT12 31).1 (kT12 31).2.1 (kT12 31).2.2.1 ∈ zWS := zWS_in (List.mem_of_getElem? (i := 1561) (by decide +kernel)) (by decide +kernel)
theorem flX12_370 : zfld "ProperFollowModel" 370 12 31 := ⟨kR12, kT12, 53, rfl, ki12, by decide, fwX12_370⟩
theorem fpX12_370 : zfldP "ProperFollowModel" 370 12 31 .int := ⟨kR12, kT12, 53, kt12, rfl, ki12, by decide, fwX12_370, kk12, kn12, by decide +kernel, by decide +kernel⟩
theorem fwX12_383 : Cond.fieldLink "ProperFollowModel" 383 (kT12 36).1 (kT12 36).2.1 (kT12 36).2.2.1 ∈ zWS := zWS_in (List.mem_of_getElem? (i := 1566) (by decide +kernel)) (by decide +kernel)
theorem flX12_383 : zfld "ProperFollowModel" 383 12 36 := ⟨kR12, kT12, 53, rfl, ki12, by decide, fwX12_383⟩
theorem fpX12_383 : zfldP "ProperFollowModel" 383 12 36 .int := ⟨kR12, kT12, 53, kt12, rfl, ki12, by decide, fwX12_383, kk12, kn12, by decide +kernel, by decide +kernel⟩
theorem fwX12_386 : Cond.fieldLink "ProperFollowModel" 386 (kT12 38).1 (kT12 38).2.1 (kT12 38).2.2.1 ∈ zWS := zWS_in (List.mem_of_getElem? (i := 1568) (by decide +kernel)) (by decide +kernel)
theorem flX12_386 : zfld "ProperFollowModel" 386 12 38 := ⟨kR12, kT12, 53, rfl, ki12, by decide, fwX12_386⟩
theorem fpX12_386 : zfldP "ProperFollowModel" 386 12 38 .int := ⟨kR12, kT12, 53, kt12, rfl, ki12, by decide, fwX12_386, kk12, kn12, by decide +kernel, by decide +kernel⟩
theorem fwX12_403 : Cond.fieldLink "ProperFollowModel" 403 (kT12 39).1 (kT12 39).2.1 (kT12 39).2.2.1 ∈ zWS := zWS_in (List.mem_of_getElem? (i := 1569) (by decide +kernel)) (by decide +kernel)
theorem flX12_403 : zfld "ProperFollowModel" 403 12 39 := ⟨kR12, kT12, 53, rfl, ki12, by decide, fwX12_403⟩
theorem fpX12_403 : zfldP "ProperFollowModel" 403 12 39 .int := ⟨kR12, kT12, 53, kt12, rfl, ki12, by decide, fwX12_403, kk12, kn12, by decide +kernel, by decide +kernel⟩
theorem fwX12_416 : Cond.fieldLink "ProperFollowModel" 416 (kT12 40).1 (kT12 40).2.1 (kT12 40).2.2.1 ∈ zWS := zWS_in (List.mem_of_getElem? (i := 1570) (by decide +kernel)) (by decide +kernel)
theorem flX12_416 : zfld "ProperFollowModel" 416 12 40 := ⟨kR12, kT12, 53, rfl, ki12, by decide, fwX12_416⟩
theorem fpX12_416 : zfldP "ProperFollowModel" 416 12 40 .int := ⟨kR12, kT12, 53, kt12, rfl, ki12, by decide, fwX12_416, kk12, kn12, by decide +kernel, by decide +kernel⟩
theorem fwX12_426 : Cond.fieldLink "ProperFollowModel" 426 (kT12 42).1 (kT12 42).2.1 (kT12 42).2.2.1 ∈ zWS := zWS_in (List.mem_of_getElem? (i := 1572) (by decide +kernel)) (by decide +kernel)
theorem flX12_426 : zfld "ProperFollowModel" 426 12 42 := ⟨kR12, kT12, 53, rfl, ki12, by decide, fwX12_426⟩
theorem fpX12_426 : zfldP "ProperFollowModel" 426 12 42 .boolean := ⟨kR12, kT12, 53, kt12, rfl, ki12, by decide, fwX12_426, kk12, kn12, by decide +kernel, by decide +kernel⟩
theorem fwX12_429 : Cond.fieldLink "ProperFollowModel" 429 (kT12 44).1 (kT12 44).2.1 (kT12 44).2.2.1 ∈ zWS := zWS_in (List.mem_of_getElem? (i := 1574) (by decide +kernel)) (by decide +kernel)
theorem flX12_429 : zfld "ProperFollowModel" 429 12 44 := ⟨kR12, kT12, 53, rfl, ki12, by decide, fwX12_429⟩
theorem fpX12_429 : zfldP "ProperFollowModel" 429 12 44 .int := ⟨kR12, kT12, 53, kt12, rfl, ki12, by decide, fwX12_429, kk12, kn12, by decide +kernel, by decide +kernel⟩
theorem fwX12_432 : Cond.fieldLink "ProperFollowModel" 432 (kT12 46).1 (kT12 46).2.1 (kT12 46).2.2.1 ∈ zWS := zWS_in (List.mem_of_getElem? (i := 1576) (by decide +kernel)) (by decide +kernel)
theorem flX12_432 : zfld "ProperFollowModel" 432 12 46 := ⟨kR12, kT12, 53, rfl, ki12, by decide, fwX12_432⟩
theorem fpX12_432 : zfldP "ProperFollowModel" 432 12 46 .int := ⟨kR12, kT12, 53, kt12, rfl, ki12, by decide, fwX12_432, kk12, kn12, by decide +kernel, by decide +kernel⟩
theorem fwX12_438 : Cond.fieldLink "ProperFollowModel" 438 (kT12 47).1 (kT12 47).2.1 (kT12 47).2.2.1 ∈ zWS := zWS_in (List.mem_of_getElem? (i := 1577) (by decide +kernel)) (by decide +kernel)
theorem flX12_438 : zfld "ProperFollowModel" 438 12 47 := ⟨kR12, kT12, 53, rfl, ki12, by decide, fwX12_438⟩
theorem fpX12_438 : zfldP "ProperFollowModel" 438 12 47 .int := ⟨kR12, kT12, 53, kt12, rfl, ki12, by decide, fwX12_438, kk12, kn12, by decide +kernel, by decide +kernel⟩
theorem fwX12_444 : Cond.fieldLink "ProperFollowModel" 444 (kT12 45).1 (kT12 45).2.1 (kT12 45).2.2.1 ∈ zWS := zWS_in (List.mem_of_getElem? (i := 1575) (by decide +kernel)) (by decide +kernel)
theorem flX12_444 : zfld "ProperFollowModel" 444 12 45 := ⟨kR12, kT12, 53, rfl, ki12, by decide, fwX12_444⟩
theorem fpX12_444 : zfldP "ProperFollowModel" 444 12 45 .int := ⟨kR12, kT12, 53, kt12, rfl, ki12, by decide, fwX12_444, kk12, kn12, by decide +kernel, by decide +kernel⟩
theorem fwX12_447 : Cond.fieldLink "ProperFollowModel" 447 (kT12 48).1 (kT12 48).2.1 (kT12 48).2.2.1 ∈ zWS := zWS_in (List.mem_of_getElem? (i := 1578) (by decide +kernel)) (by decide +kernel)
theorem flX12_447 : zfld "ProperFollowModel" 447 12 48 := ⟨kR12, kT12, 53, rfl, ki12, by decide, fwX12_447⟩
theorem fpX12_447 : zfldP "ProperFollowModel" 447 12 48 .boolean := ⟨kR12, kT12, 53, kt12, rfl, ki12, by decide, fwX12_447, kk12, kn12, by decide +kernel, by decide +kernel⟩
theorem wi_X11 : Cond.initialized "ProperFollow" ∈ zWS := zWS_in (List.mem_of_getElem? (i := 115) (by decide +kernel)) (by decide +kernel)
theorem wi_X0 : Cond.initialized "ProperFollow$Book" ∈ zWS := zWS_in (List.mem_of_getElem? (i := 127) (by decide +kernel)) (by decide +kernel)
theorem wi_X1 : Cond.initialized "ProperFollow$Day" ∈ zWS := zWS_in (List.mem_of_getElem? (i := 123) (by decide +kernel)) (by decide +kernel)
theorem wi_X2 : Cond.initialized "ProperFollow$Draws" ∈ zWS := zWS_in (List.mem_of_getElem? (i := 129) (by decide +kernel)) (by decide +kernel)
theorem wi_X3 : Cond.initialized "ProperFollow$History" ∈ zWS := zWS_in (List.mem_of_getElem? (i := 126) (by decide +kernel)) (by decide +kernel)
theorem wi_X5 : Cond.initialized "ProperFollow$Line" ∈ zWS := zWS_in (List.mem_of_getElem? (i := 130) (by decide +kernel)) (by decide +kernel)
theorem wi_X6 : Cond.initialized "ProperFollow$Pairing" ∈ zWS := zWS_in (List.mem_of_getElem? (i := 128) (by decide +kernel)) (by decide +kernel)
theorem wi_X7 : Cond.initialized "ProperFollow$Plan" ∈ zWS := zWS_in (List.mem_of_getElem? (i := 122) (by decide +kernel)) (by decide +kernel)
theorem wi_X8 : Cond.initialized "ProperFollow$Reader" ∈ zWS := zWS_in (List.mem_of_getElem? (i := 117) (by decide +kernel)) (by decide +kernel)
theorem wi_X9 : Cond.initialized "ProperFollow$Sentence" ∈ zWS := zWS_in (List.mem_of_getElem? (i := 125) (by decide +kernel)) (by decide +kernel)
theorem wi_X10 : Cond.initialized "ProperFollow$Tape" ∈ zWS := zWS_in (List.mem_of_getElem? (i := 116) (by decide +kernel)) (by decide +kernel)
theorem wi_X12 : Cond.initialized "ProperFollowModel" ∈ zWS := zWS_in (List.mem_of_getElem? (i := 132) (by decide +kernel)) (by decide +kernel)
theorem wi_J6 : Cond.initialized "java/lang/Integer" ∈ zWS := zWS_in (List.mem_of_getElem? (i := 139) (by decide +kernel)) (by decide +kernel)
theorem wi_J7 : Cond.initialized "java/util/Arrays" ∈ zWS := zWS_in (List.mem_of_getElem? (i := 124) (by decide +kernel)) (by decide +kernel)
theorem lkJ6_bitCount_0f7a4 : zlkS YJ6_bitCount_0f7a4 1 := ⟨⟨wi_J6, zWS_in (List.mem_of_getElem? (i := 865) (by decide +kernel)) (by decide +kernel), by decide, by decide, by decide +kernel, by decide⟩, zWS_in (List.mem_of_getElem? (i := 864) (by decide +kernel)) (by decide +kernel)⟩
theorem lkJ6_lowestOneBit_0f7a4 : zlkS YJ6_lowestOneBit_0f7a4 1 := ⟨⟨wi_J6, zWS_in (List.mem_of_getElem? (i := 862) (by decide +kernel)) (by decide +kernel), by decide, by decide, by decide +kernel, by decide⟩, zWS_in (List.mem_of_getElem? (i := 861) (by decide +kernel)) (by decide +kernel)⟩
theorem lkJ7_fill_53178 : zlkS YJ7_fill_53178 2 := ⟨⟨wi_J7, zWS_in (List.mem_of_getElem? (i := 290) (by decide +kernel)) (by decide +kernel), by decide, by decide, by decide +kernel, by decide⟩, zWS_in (List.mem_of_getElem? (i := 289) (by decide +kernel)) (by decide +kernel)⟩
theorem lkX0_doLine : zlkV YX0_doLine 3 := ⟨⟨wi_X0, zWS_in (List.mem_of_getElem? (i := 1224) (by decide +kernel)) (by decide +kernel), by decide, by decide, by decide +kernel, by decide⟩, zWS_in (List.mem_of_getElem? (i := 1223) (by decide +kernel)) (by decide +kernel), zWS_in (List.mem_of_getElem? (i := 30) (by decide +kernel)) (by decide +kernel)⟩
theorem lkX0_readAct : zlkV YX0_readAct 4 := ⟨⟨wi_X0, zWS_in (List.mem_of_getElem? (i := 1213) (by decide +kernel)) (by decide +kernel), by decide, by decide, by decide +kernel, by decide⟩, zWS_in (List.mem_of_getElem? (i := 1212) (by decide +kernel)) (by decide +kernel), zWS_in (List.mem_of_getElem? (i := 29) (by decide +kernel)) (by decide +kernel)⟩
theorem lkX0_readLine : zlkV YX0_readLine 2 := ⟨⟨wi_X0, zWS_in (List.mem_of_getElem? (i := 1205) (by decide +kernel)) (by decide +kernel), by decide, by decide, by decide +kernel, by decide⟩, zWS_in (List.mem_of_getElem? (i := 1204) (by decide +kernel)) (by decide +kernel), zWS_in (List.mem_of_getElem? (i := 28) (by decide +kernel)) (by decide +kernel)⟩
theorem lkX0_shifted : zlkS YX0_shifted 2 := ⟨⟨wi_X0, zWS_in (List.mem_of_getElem? (i := 1229) (by decide +kernel)) (by decide +kernel), by decide, by decide, by decide +kernel, by decide⟩, zWS_in (List.mem_of_getElem? (i := 1228) (by decide +kernel)) (by decide +kernel)⟩
theorem lkX0_toldOf : zlkV YX0_toldOf 1 := ⟨⟨wi_X0, zWS_in (List.mem_of_getElem? (i := 1247) (by decide +kernel)) (by decide +kernel), by decide, by decide, by decide +kernel, by decide⟩, zWS_in (List.mem_of_getElem? (i := 1245) (by decide +kernel)) (by decide +kernel), zWS_in (List.mem_of_getElem? (i := 1246) (by decide +kernel)) (by decide +kernel)⟩
theorem lkX10_addNumber : zlkV YX10_addNumber 1 := ⟨⟨wi_X10, zWS_in (List.mem_of_getElem? (i := 562) (by decide +kernel)) (by decide +kernel), by decide, by decide, by decide +kernel, by decide⟩, zWS_in (List.mem_of_getElem? (i := 560) (by decide +kernel)) (by decide +kernel), zWS_in (List.mem_of_getElem? (i := 561) (by decide +kernel)) (by decide +kernel)⟩
theorem lkX10_byteOf : zlkV YX10_byteOf 1 := ⟨⟨wi_X10, zWS_in (List.mem_of_getElem? (i := 594) (by decide +kernel)) (by decide +kernel), by decide, by decide, by decide +kernel, by decide⟩, zWS_in (List.mem_of_getElem? (i := 592) (by decide +kernel)) (by decide +kernel), zWS_in (List.mem_of_getElem? (i := 593) (by decide +kernel)) (by decide +kernel)⟩
theorem lkX10_clear : zlkV YX10_clear 0 := ⟨⟨wi_X10, zWS_in (List.mem_of_getElem? (i := 773) (by decide +kernel)) (by decide +kernel), by decide, by decide, by decide +kernel, by decide⟩, zWS_in (List.mem_of_getElem? (i := 771) (by decide +kernel)) (by decide +kernel), zWS_in (List.mem_of_getElem? (i := 772) (by decide +kernel)) (by decide +kernel)⟩
theorem lkX10_hasRoom : zlkV YX10_hasRoom 1 := ⟨⟨wi_X10, zWS_in (List.mem_of_getElem? (i := 558) (by decide +kernel)) (by decide +kernel), by decide, by decide, by decide +kernel, by decide⟩, zWS_in (List.mem_of_getElem? (i := 556) (by decide +kernel)) (by decide +kernel), zWS_in (List.mem_of_getElem? (i := 557) (by decide +kernel)) (by decide +kernel)⟩
theorem lkX10_length : zlkV YX10_length 0 := ⟨⟨wi_X10, zWS_in (List.mem_of_getElem? (i := 566) (by decide +kernel)) (by decide +kernel), by decide, by decide, by decide +kernel, by decide⟩, zWS_in (List.mem_of_getElem? (i := 564) (by decide +kernel)) (by decide +kernel), zWS_in (List.mem_of_getElem? (i := 565) (by decide +kernel)) (by decide +kernel)⟩
theorem lkX10_shorten : zlkV YX10_shorten 1 := ⟨⟨wi_X10, zWS_in (List.mem_of_getElem? (i := 574) (by decide +kernel)) (by decide +kernel), by decide, by decide, by decide +kernel, by decide⟩, zWS_in (List.mem_of_getElem? (i := 572) (by decide +kernel)) (by decide +kernel), zWS_in (List.mem_of_getElem? (i := 573) (by decide +kernel)) (by decide +kernel)⟩
theorem lkX11_bestQuestion : zlkV YX11_bestQuestion 1 := ⟨⟨wi_X11, zWS_in (List.mem_of_getElem? (i := 1021) (by decide +kernel)) (by decide +kernel), by decide, by decide, by decide +kernel, by decide⟩, zWS_in (List.mem_of_getElem? (i := 1020) (by decide +kernel)) (by decide +kernel), zWS_in (List.mem_of_getElem? (i := 21) (by decide +kernel)) (by decide +kernel)⟩
theorem lkX11_hasBit : zlkS YX11_hasBit 2 := ⟨⟨wi_X11, zWS_in (List.mem_of_getElem? (i := 690) (by decide +kernel)) (by decide +kernel), by decide, by decide, by decide +kernel, by decide⟩, zWS_in (List.mem_of_getElem? (i := 689) (by decide +kernel)) (by decide +kernel)⟩
theorem lkX11_staysUnseen : zlkV YX11_staysUnseen 3 := ⟨⟨wi_X11, zWS_in (List.mem_of_getElem? (i := 1002) (by decide +kernel)) (by decide +kernel), by decide, by decide, by decide +kernel, by decide⟩, zWS_in (List.mem_of_getElem? (i := 1001) (by decide +kernel)) (by decide +kernel), zWS_in (List.mem_of_getElem? (i := 19) (by decide +kernel)) (by decide +kernel)⟩
theorem lkX11_whoFitsTape : zlkV YX11_whoFitsTape 0 := ⟨⟨wi_X11, zWS_in (List.mem_of_getElem? (i := 1012) (by decide +kernel)) (by decide +kernel), by decide, by decide, by decide +kernel, by decide⟩, zWS_in (List.mem_of_getElem? (i := 1011) (by decide +kernel)) (by decide +kernel), zWS_in (List.mem_of_getElem? (i := 20) (by decide +kernel)) (by decide +kernel)⟩
theorem lkX12_back : zlkV YX12_back 0 := ⟨⟨wi_X12, zWS_in (List.mem_of_getElem? (i := 1945) (by decide +kernel)) (by decide +kernel), by decide, by decide, by decide +kernel, by decide⟩, zWS_in (List.mem_of_getElem? (i := 1944) (by decide +kernel)) (by decide +kernel), zWS_in (List.mem_of_getElem? (i := 89) (by decide +kernel)) (by decide +kernel)⟩
theorem lkX12_bad : zlkV YX12_bad 1 := ⟨⟨wi_X12, zWS_in (List.mem_of_getElem? (i := 1728) (by decide +kernel)) (by decide +kernel), by decide, by decide, by decide +kernel, by decide⟩, zWS_in (List.mem_of_getElem? (i := 1727) (by decide +kernel)) (by decide +kernel), zWS_in (List.mem_of_getElem? (i := 53) (by decide +kernel)) (by decide +kernel)⟩
theorem lkX12_behind : zlkV YX12_behind 0 := ⟨⟨wi_X12, zWS_in (List.mem_of_getElem? (i := 2103) (by decide +kernel)) (by decide +kernel), by decide, by decide, by decide +kernel, by decide⟩, zWS_in (List.mem_of_getElem? (i := 2102) (by decide +kernel)) (by decide +kernel), zWS_in (List.mem_of_getElem? (i := 109) (by decide +kernel)) (by decide +kernel)⟩
theorem lkX12_binds : zlkV YX12_binds 3 := ⟨⟨wi_X12, zWS_in (List.mem_of_getElem? (i := 1894) (by decide +kernel)) (by decide +kernel), by decide, by decide, by decide +kernel, by decide⟩, zWS_in (List.mem_of_getElem? (i := 1893) (by decide +kernel)) (by decide +kernel), zWS_in (List.mem_of_getElem? (i := 83) (by decide +kernel)) (by decide +kernel)⟩
theorem lkX12_bitOf : zlkS YX12_bitOf 2 := ⟨⟨wi_X12, zWS_in (List.mem_of_getElem? (i := 1755) (by decide +kernel)) (by decide +kernel), by decide, by decide, by decide +kernel, by decide⟩, zWS_in (List.mem_of_getElem? (i := 1754) (by decide +kernel)) (by decide +kernel)⟩
theorem lkX12_bits : zlkS YX12_bits 1 := ⟨⟨wi_X12, zWS_in (List.mem_of_getElem? (i := 1929) (by decide +kernel)) (by decide +kernel), by decide, by decide, by decide +kernel, by decide⟩, zWS_in (List.mem_of_getElem? (i := 1928) (by decide +kernel)) (by decide +kernel)⟩
theorem lkX12_bookLine : zlkV YX12_bookLine 0 := ⟨⟨wi_X12, zWS_in (List.mem_of_getElem? (i := 2075) (by decide +kernel)) (by decide +kernel), by decide, by decide, by decide +kernel, by decide⟩, zWS_in (List.mem_of_getElem? (i := 2074) (by decide +kernel)) (by decide +kernel), zWS_in (List.mem_of_getElem? (i := 104) (by decide +kernel)) (by decide +kernel)⟩
theorem lkX12_clears : zlkV YX12_clears 0 := ⟨⟨wi_X12, zWS_in (List.mem_of_getElem? (i := 1529) (by decide +kernel)) (by decide +kernel), by decide, by decide, by decide +kernel, by decide⟩, zWS_in (List.mem_of_getElem? (i := 1528) (by decide +kernel)) (by decide +kernel), zWS_in (List.mem_of_getElem? (i := 46) (by decide +kernel)) (by decide +kernel)⟩
theorem lkX12_code : zlkV YX12_code 3 := ⟨⟨wi_X12, zWS_in (List.mem_of_getElem? (i := 2095) (by decide +kernel)) (by decide +kernel), by decide, by decide, by decide +kernel, by decide⟩, zWS_in (List.mem_of_getElem? (i := 2094) (by decide +kernel)) (by decide +kernel), zWS_in (List.mem_of_getElem? (i := 107) (by decide +kernel)) (by decide +kernel)⟩
theorem lkX12_couldBe : zlkV YX12_couldBe 2 := ⟨⟨wi_X12, zWS_in (List.mem_of_getElem? (i := 2008) (by decide +kernel)) (by decide +kernel), by decide, by decide, by decide +kernel, by decide⟩, zWS_in (List.mem_of_getElem? (i := 2007) (by decide +kernel)) (by decide +kernel), zWS_in (List.mem_of_getElem? (i := 96) (by decide +kernel)) (by decide +kernel)⟩
theorem lkX12_does : zlkV YX12_does 4 := ⟨⟨wi_X12, zWS_in (List.mem_of_getElem? (i := 2079) (by decide +kernel)) (by decide +kernel), by decide, by decide, by decide +kernel, by decide⟩, zWS_in (List.mem_of_getElem? (i := 2078) (by decide +kernel)) (by decide +kernel), zWS_in (List.mem_of_getElem? (i := 105) (by decide +kernel)) (by decide +kernel)⟩
theorem lkX12_draw : zlkV YX12_draw 1 := ⟨⟨wi_X12, zWS_in (List.mem_of_getElem? (i := 2062) (by decide +kernel)) (by decide +kernel), by decide, by decide, by decide +kernel, by decide⟩, zWS_in (List.mem_of_getElem? (i := 2061) (by decide +kernel)) (by decide +kernel), zWS_in (List.mem_of_getElem? (i := 103) (by decide +kernel)) (by decide +kernel)⟩
theorem lkX12_drawPerson : zlkV YX12_drawPerson 1 := ⟨⟨wi_X12, zWS_in (List.mem_of_getElem? (i := 2058) (by decide +kernel)) (by decide +kernel), by decide, by decide, by decide +kernel, by decide⟩, zWS_in (List.mem_of_getElem? (i := 2057) (by decide +kernel)) (by decide +kernel), zWS_in (List.mem_of_getElem? (i := 102) (by decide +kernel)) (by decide +kernel)⟩
theorem lkX12_draws : zlkV YX12_draws 2 := ⟨⟨wi_X12, zWS_in (List.mem_of_getElem? (i := 2054) (by decide +kernel)) (by decide +kernel), by decide, by decide, by decide +kernel, by decide⟩, zWS_in (List.mem_of_getElem? (i := 2053) (by decide +kernel)) (by decide +kernel), zWS_in (List.mem_of_getElem? (i := 101) (by decide +kernel)) (by decide +kernel)⟩
theorem lkX12_followersOf : zlkV YX12_followersOf 1 := ⟨⟨wi_X12, zWS_in (List.mem_of_getElem? (i := 1822) (by decide +kernel)) (by decide +kernel), by decide, by decide, by decide +kernel, by decide⟩, zWS_in (List.mem_of_getElem? (i := 1821) (by decide +kernel)) (by decide +kernel), zWS_in (List.mem_of_getElem? (i := 72) (by decide +kernel)) (by decide +kernel)⟩
theorem lkX12_four : zlkV YX12_four 1 := ⟨⟨wi_X12, zWS_in (List.mem_of_getElem? (i := 1494) (by decide +kernel)) (by decide +kernel), by decide, by decide, by decide +kernel, by decide⟩, zWS_in (List.mem_of_getElem? (i := 1492) (by decide +kernel)) (by decide +kernel), zWS_in (List.mem_of_getElem? (i := 45) (by decide +kernel)) (by decide +kernel)⟩
theorem lkX12_fresh : zlkV YX12_fresh 1 := ⟨⟨wi_X12, zWS_in (List.mem_of_getElem? (i := 1732) (by decide +kernel)) (by decide +kernel), by decide, by decide, by decide +kernel, by decide⟩, zWS_in (List.mem_of_getElem? (i := 1731) (by decide +kernel)) (by decide +kernel), zWS_in (List.mem_of_getElem? (i := 54) (by decide +kernel)) (by decide +kernel)⟩
theorem lkX12_goesOn : zlkV YX12_goesOn 1 := ⟨⟨wi_X12, zWS_in (List.mem_of_getElem? (i := 1902) (by decide +kernel)) (by decide +kernel), by decide, by decide, by decide +kernel, by decide⟩, zWS_in (List.mem_of_getElem? (i := 1901) (by decide +kernel)) (by decide +kernel), zWS_in (List.mem_of_getElem? (i := 84) (by decide +kernel)) (by decide +kernel)⟩
theorem lkX12_goesTo : zlkV YX12_goesTo 1 := ⟨⟨wi_X12, zWS_in (List.mem_of_getElem? (i := 1910) (by decide +kernel)) (by decide +kernel), by decide, by decide, by decide +kernel, by decide⟩, zWS_in (List.mem_of_getElem? (i := 1909) (by decide +kernel)) (by decide +kernel), zWS_in (List.mem_of_getElem? (i := 86) (by decide +kernel)) (by decide +kernel)⟩
theorem lkX12_greater : zlkS YX12_greater 2 := ⟨⟨wi_X12, zWS_in (List.mem_of_getElem? (i := 1972) (by decide +kernel)) (by decide +kernel), by decide, by decide, by decide +kernel, by decide⟩, zWS_in (List.mem_of_getElem? (i := 1971) (by decide +kernel)) (by decide +kernel)⟩
theorem lkX12_isBeside : zlkV YX12_isBeside 2 := ⟨⟨wi_X12, zWS_in (List.mem_of_getElem? (i := 1794) (by decide +kernel)) (by decide +kernel), by decide, by decide, by decide +kernel, by decide⟩, zWS_in (List.mem_of_getElem? (i := 1793) (by decide +kernel)) (by decide +kernel), zWS_in (List.mem_of_getElem? (i := 68) (by decide +kernel)) (by decide +kernel)⟩
theorem lkX12_isCorner : zlkV YX12_isCorner 1 := ⟨⟨wi_X12, zWS_in (List.mem_of_getElem? (i := 1838) (by decide +kernel)) (by decide +kernel), by decide, by decide, by decide +kernel, by decide⟩, zWS_in (List.mem_of_getElem? (i := 1837) (by decide +kernel)) (by decide +kernel), zWS_in (List.mem_of_getElem? (i := 74) (by decide +kernel)) (by decide +kernel)⟩
theorem lkX12_isDigit : zlkS YX12_isDigit 1 := ⟨⟨wi_X12, zWS_in (List.mem_of_getElem? (i := 1712) (by decide +kernel)) (by decide +kernel), by decide, by decide, by decide +kernel, by decide⟩, zWS_in (List.mem_of_getElem? (i := 1711) (by decide +kernel)) (by decide +kernel)⟩
theorem lkX12_isFit : zlkV YX12_isFit 1 := ⟨⟨wi_X12, zWS_in (List.mem_of_getElem? (i := 1965) (by decide +kernel)) (by decide +kernel), by decide, by decide, by decide +kernel, by decide⟩, zWS_in (List.mem_of_getElem? (i := 1964) (by decide +kernel)) (by decide +kernel), zWS_in (List.mem_of_getElem? (i := 92) (by decide +kernel)) (by decide +kernel)⟩
theorem lkX12_isIdle : zlkV YX12_isIdle 1 := ⟨⟨wi_X12, zWS_in (List.mem_of_getElem? (i := 2012) (by decide +kernel)) (by decide +kernel), by decide, by decide, by decide +kernel, by decide⟩, zWS_in (List.mem_of_getElem? (i := 2011) (by decide +kernel)) (by decide +kernel), zWS_in (List.mem_of_getElem? (i := 97) (by decide +kernel)) (by decide +kernel)⟩
theorem lkX12_isIn : zlkS YX12_isIn 3 := ⟨⟨wi_X12, zWS_in (List.mem_of_getElem? (i := 1770) (by decide +kernel)) (by decide +kernel), by decide, by decide, by decide +kernel, by decide⟩, zWS_in (List.mem_of_getElem? (i := 1769) (by decide +kernel)) (by decide +kernel)⟩
theorem lkX12_isLeaf : zlkV YX12_isLeaf 4 := ⟨⟨wi_X12, zWS_in (List.mem_of_getElem? (i := 2123) (by decide +kernel)) (by decide +kernel), by decide, by decide, by decide +kernel, by decide⟩, zWS_in (List.mem_of_getElem? (i := 2122) (by decide +kernel)) (by decide +kernel), zWS_in (List.mem_of_getElem? (i := 113) (by decide +kernel)) (by decide +kernel)⟩
theorem lkX12_isName : zlkV YX12_isName 0 := ⟨⟨wi_X12, zWS_in (List.mem_of_getElem? (i := 1736) (by decide +kernel)) (by decide +kernel), by decide, by decide, by decide +kernel, by decide⟩, zWS_in (List.mem_of_getElem? (i := 1735) (by decide +kernel)) (by decide +kernel), zWS_in (List.mem_of_getElem? (i := 55) (by decide +kernel)) (by decide +kernel)⟩
theorem lkX12_isPerson : zlkV YX12_isPerson 1 := ⟨⟨wi_X12, zWS_in (List.mem_of_getElem? (i := 1810) (by decide +kernel)) (by decide +kernel), by decide, by decide, by decide +kernel, by decide⟩, zWS_in (List.mem_of_getElem? (i := 1809) (by decide +kernel)) (by decide +kernel), zWS_in (List.mem_of_getElem? (i := 69) (by decide +kernel)) (by decide +kernel)⟩
theorem lkX12_isProper : zlkV YX12_isProper 3 := ⟨⟨wi_X12, zWS_in (List.mem_of_getElem? (i := 1953) (by decide +kernel)) (by decide +kernel), by decide, by decide, by decide +kernel, by decide⟩, zWS_in (List.mem_of_getElem? (i := 1952) (by decide +kernel)) (by decide +kernel), zWS_in (List.mem_of_getElem? (i := 90) (by decide +kernel)) (by decide +kernel)⟩
theorem lkX12_isReached : zlkV YX12_isReached 3 := ⟨⟨wi_X12, zWS_in (List.mem_of_getElem? (i := 1992) (by decide +kernel)) (by decide +kernel), by decide, by decide, by decide +kernel, by decide⟩, zWS_in (List.mem_of_getElem? (i := 1991) (by decide +kernel)) (by decide +kernel), zWS_in (List.mem_of_getElem? (i := 94) (by decide +kernel)) (by decide +kernel)⟩
theorem lkX12_isSaid : zlkV YX12_isSaid 1 := ⟨⟨wi_X12, zWS_in (List.mem_of_getElem? (i := 2119) (by decide +kernel)) (by decide +kernel), by decide, by decide, by decide +kernel, by decide⟩, zWS_in (List.mem_of_getElem? (i := 2118) (by decide +kernel)) (by decide +kernel), zWS_in (List.mem_of_getElem? (i := 112) (by decide +kernel)) (by decide +kernel)⟩
theorem lkX12_isSign : zlkV YX12_isSign 1 := ⟨⟨wi_X12, zWS_in (List.mem_of_getElem? (i := 1786) (by decide +kernel)) (by decide +kernel), by decide, by decide, by decide +kernel, by decide⟩, zWS_in (List.mem_of_getElem? (i := 1785) (by decide +kernel)) (by decide +kernel), zWS_in (List.mem_of_getElem? (i := 66) (by decide +kernel)) (by decide +kernel)⟩
theorem lkX12_isSmall : zlkS YX12_isSmall 1 := ⟨⟨wi_X12, zWS_in (List.mem_of_getElem? (i := 1709) (by decide +kernel)) (by decide +kernel), by decide, by decide, by decide +kernel, by decide⟩, zWS_in (List.mem_of_getElem? (i := 1708) (by decide +kernel)) (by decide +kernel)⟩
theorem lkX12_isWord : zlkV YX12_isWord 1 := ⟨⟨wi_X12, zWS_in (List.mem_of_getElem? (i := 1720) (by decide +kernel)) (by decide +kernel), by decide, by decide, by decide +kernel, by decide⟩, zWS_in (List.mem_of_getElem? (i := 1719) (by decide +kernel)) (by decide +kernel), zWS_in (List.mem_of_getElem? (i := 51) (by decide +kernel)) (by decide +kernel)⟩
theorem lkX12_joins : zlkV YX12_joins 1 := ⟨⟨wi_X12, zWS_in (List.mem_of_getElem? (i := 2099) (by decide +kernel)) (by decide +kernel), by decide, by decide, by decide +kernel, by decide⟩, zWS_in (List.mem_of_getElem? (i := 2098) (by decide +kernel)) (by decide +kernel), zWS_in (List.mem_of_getElem? (i := 108) (by decide +kernel)) (by decide +kernel)⟩
theorem lkX12_keep : zlkV YX12_keep 0 := ⟨⟨wi_X12, zWS_in (List.mem_of_getElem? (i := 1862) (by decide +kernel)) (by decide +kernel), by decide, by decide, by decide +kernel, by decide⟩, zWS_in (List.mem_of_getElem? (i := 1861) (by decide +kernel)) (by decide +kernel), zWS_in (List.mem_of_getElem? (i := 78) (by decide +kernel)) (by decide +kernel)⟩
theorem lkX12_lastOf : zlkV YX12_lastOf 1 := ⟨⟨wi_X12, zWS_in (List.mem_of_getElem? (i := 1826) (by decide +kernel)) (by decide +kernel), by decide, by decide, by decide +kernel, by decide⟩, zWS_in (List.mem_of_getElem? (i := 1825) (by decide +kernel)) (by decide +kernel), zWS_in (List.mem_of_getElem? (i := 73) (by decide +kernel)) (by decide +kernel)⟩
theorem lkX12_lays : zlkV YX12_lays 1 := ⟨⟨wi_X12, zWS_in (List.mem_of_getElem? (i := 2037) (by decide +kernel)) (by decide +kernel), by decide, by decide, by decide +kernel, by decide⟩, zWS_in (List.mem_of_getElem? (i := 2036) (by decide +kernel)) (by decide +kernel), zWS_in (List.mem_of_getElem? (i := 99) (by decide +kernel)) (by decide +kernel)⟩
theorem lkX12_laysApart : zlkV YX12_laysApart 0 := ⟨⟨wi_X12, zWS_in (List.mem_of_getElem? (i := 1790) (by decide +kernel)) (by decide +kernel), by decide, by decide, by decide +kernel, by decide⟩, zWS_in (List.mem_of_getElem? (i := 1789) (by decide +kernel)) (by decide +kernel), zWS_in (List.mem_of_getElem? (i := 67) (by decide +kernel)) (by decide +kernel)⟩
theorem lkX12_leafOf : zlkV YX12_leafOf 0 := ⟨⟨wi_X12, zWS_in (List.mem_of_getElem? (i := 2111) (by decide +kernel)) (by decide +kernel), by decide, by decide, by decide +kernel, by decide⟩, zWS_in (List.mem_of_getElem? (i := 2110) (by decide +kernel)) (by decide +kernel), zWS_in (List.mem_of_getElem? (i := 111) (by decide +kernel)) (by decide +kernel)⟩
theorem lkX12_leftBy : zlkV YX12_leftBy 2 := ⟨⟨wi_X12, zWS_in (List.mem_of_getElem? (i := 1969) (by decide +kernel)) (by decide +kernel), by decide, by decide, by decide +kernel, by decide⟩, zWS_in (List.mem_of_getElem? (i := 1968) (by decide +kernel)) (by decide +kernel), zWS_in (List.mem_of_getElem? (i := 93) (by decide +kernel)) (by decide +kernel)⟩
theorem lkX12_lesser : zlkS YX12_lesser 2 := ⟨⟨wi_X12, zWS_in (List.mem_of_getElem? (i := 1798) (by decide +kernel)) (by decide +kernel), by decide, by decide, by decide +kernel, by decide⟩, zWS_in (List.mem_of_getElem? (i := 1797) (by decide +kernel)) (by decide +kernel)⟩
theorem lkX12_lets : zlkV YX12_lets 1 := ⟨⟨wi_X12, zWS_in (List.mem_of_getElem? (i := 1874) (by decide +kernel)) (by decide +kernel), by decide, by decide, by decide +kernel, by decide⟩, zWS_in (List.mem_of_getElem? (i := 1873) (by decide +kernel)) (by decide +kernel), zWS_in (List.mem_of_getElem? (i := 80) (by decide +kernel)) (by decide +kernel)⟩
theorem lkX12_looksAt : zlkV YX12_looksAt 2 := ⟨⟨wi_X12, zWS_in (List.mem_of_getElem? (i := 1752) (by decide +kernel)) (by decide +kernel), by decide, by decide, by decide +kernel, by decide⟩, zWS_in (List.mem_of_getElem? (i := 1751) (by decide +kernel)) (by decide +kernel), zWS_in (List.mem_of_getElem? (i := 59) (by decide +kernel)) (by decide +kernel)⟩
theorem lkX12_minute : zlkV YX12_minute 0 := ⟨⟨wi_X12, zWS_in (List.mem_of_getElem? (i := 1906) (by decide +kernel)) (by decide +kernel), by decide, by decide, by decide +kernel, by decide⟩, zWS_in (List.mem_of_getElem? (i := 1905) (by decide +kernel)) (by decide +kernel), zWS_in (List.mem_of_getElem? (i := 85) (by decide +kernel)) (by decide +kernel)⟩
theorem lkX12_next : zlkV YX12_next 0 := ⟨⟨wi_X12, zWS_in (List.mem_of_getElem? (i := 1702) (by decide +kernel)) (by decide +kernel), by decide, by decide, by decide +kernel, by decide⟩, zWS_in (List.mem_of_getElem? (i := 1701) (by decide +kernel)) (by decide +kernel), zWS_in (List.mem_of_getElem? (i := 48) (by decide +kernel)) (by decide +kernel)⟩
theorem lkX12_nots : zlkV YX12_nots 0 := ⟨⟨wi_X12, zWS_in (List.mem_of_getElem? (i := 2091) (by decide +kernel)) (by decide +kernel), by decide, by decide, by decide +kernel, by decide⟩, zWS_in (List.mem_of_getElem? (i := 2090) (by decide +kernel)) (by decide +kernel), zWS_in (List.mem_of_getElem? (i := 106) (by decide +kernel)) (by decide +kernel)⟩
theorem lkX12_octet : zlkV YX12_octet 1 := ⟨⟨wi_X12, zWS_in (List.mem_of_getElem? (i := 1961) (by decide +kernel)) (by decide +kernel), by decide, by decide, by decide +kernel, by decide⟩, zWS_in (List.mem_of_getElem? (i := 1960) (by decide +kernel)) (by decide +kernel), zWS_in (List.mem_of_getElem? (i := 91) (by decide +kernel)) (by decide +kernel)⟩
theorem lkX12_operand : zlkV YX12_operand 0 := ⟨⟨wi_X12, zWS_in (List.mem_of_getElem? (i := 2107) (by decide +kernel)) (by decide +kernel), by decide, by decide, by decide +kernel, by decide⟩, zWS_in (List.mem_of_getElem? (i := 2106) (by decide +kernel)) (by decide +kernel), zWS_in (List.mem_of_getElem? (i := 110) (by decide +kernel)) (by decide +kernel)⟩
theorem lkX12_parts : zlkV YX12_parts 1 := ⟨⟨wi_X12, zWS_in (List.mem_of_getElem? (i := 1882) (by decide +kernel)) (by decide +kernel), by decide, by decide, by decide +kernel, by decide⟩, zWS_in (List.mem_of_getElem? (i := 1881) (by decide +kernel)) (by decide +kernel), zWS_in (List.mem_of_getElem? (i := 81) (by decide +kernel)) (by decide +kernel)⟩
theorem lkX12_peek : zlkV YX12_peek 0 := ⟨⟨wi_X12, zWS_in (List.mem_of_getElem? (i := 1706) (by decide +kernel)) (by decide +kernel), by decide, by decide, by decide +kernel, by decide⟩, zWS_in (List.mem_of_getElem? (i := 1705) (by decide +kernel)) (by decide +kernel), zWS_in (List.mem_of_getElem? (i := 49) (by decide +kernel)) (by decide +kernel)⟩
theorem lkX12_printsInAll : zlkV YX12_printsInAll 0 := ⟨⟨wi_X12, zWS_in (List.mem_of_getElem? (i := 1850) (by decide +kernel)) (by decide +kernel), by decide, by decide, by decide +kernel, by decide⟩, zWS_in (List.mem_of_getElem? (i := 1849) (by decide +kernel)) (by decide +kernel), zWS_in (List.mem_of_getElem? (i := 76) (by decide +kernel)) (by decide +kernel)⟩
theorem lkX12_puts : zlkV YX12_puts 3 := ⟨⟨wi_X12, zWS_in (List.mem_of_getElem? (i := 1763) (by decide +kernel)) (by decide +kernel), by decide, by decide, by decide +kernel, by decide⟩, zWS_in (List.mem_of_getElem? (i := 1762) (by decide +kernel)) (by decide +kernel), zWS_in (List.mem_of_getElem? (i := 61) (by decide +kernel)) (by decide +kernel)⟩
theorem lkX12_readCorner : zlkV YX12_readCorner 0 := ⟨⟨wi_X12, zWS_in (List.mem_of_getElem? (i := 1724) (by decide +kernel)) (by decide +kernel), by decide, by decide, by decide +kernel, by decide⟩, zWS_in (List.mem_of_getElem? (i := 1723) (by decide +kernel)) (by decide +kernel), zWS_in (List.mem_of_getElem? (i := 52) (by decide +kernel)) (by decide +kernel)⟩
theorem lkX12_readFollows : zlkV YX12_readFollows 0 := ⟨⟨wi_X12, zWS_in (List.mem_of_getElem? (i := 1778) (by decide +kernel)) (by decide +kernel), by decide, by decide, by decide +kernel, by decide⟩, zWS_in (List.mem_of_getElem? (i := 1777) (by decide +kernel)) (by decide +kernel), zWS_in (List.mem_of_getElem? (i := 64) (by decide +kernel)) (by decide +kernel)⟩
theorem lkX12_readLine : zlkV YX12_readLine 0 := ⟨⟨wi_X12, zWS_in (List.mem_of_getElem? (i := 1716) (by decide +kernel)) (by decide +kernel), by decide, by decide, by decide +kernel, by decide⟩, zWS_in (List.mem_of_getElem? (i := 1715) (by decide +kernel)) (by decide +kernel), zWS_in (List.mem_of_getElem? (i := 50) (by decide +kernel)) (by decide +kernel)⟩
theorem lkX12_readNext : zlkV YX12_readNext 0 := ⟨⟨wi_X12, zWS_in (List.mem_of_getElem? (i := 1774) (by decide +kernel)) (by decide +kernel), by decide, by decide, by decide +kernel, by decide⟩, zWS_in (List.mem_of_getElem? (i := 1773) (by decide +kernel)) (by decide +kernel), zWS_in (List.mem_of_getElem? (i := 63) (by decide +kernel)) (by decide +kernel)⟩
theorem lkX12_readPerson : zlkV YX12_readPerson 0 := ⟨⟨wi_X12, zWS_in (List.mem_of_getElem? (i := 1759) (by decide +kernel)) (by decide +kernel), by decide, by decide, by decide +kernel, by decide⟩, zWS_in (List.mem_of_getElem? (i := 1758) (by decide +kernel)) (by decide +kernel), zWS_in (List.mem_of_getElem? (i := 60) (by decide +kernel)) (by decide +kernel)⟩
theorem lkX12_readStreet : zlkV YX12_readStreet 0 := ⟨⟨wi_X12, zWS_in (List.mem_of_getElem? (i := 1744) (by decide +kernel)) (by decide +kernel), by decide, by decide, by decide +kernel, by decide⟩, zWS_in (List.mem_of_getElem? (i := 1743) (by decide +kernel)) (by decide +kernel), zWS_in (List.mem_of_getElem? (i := 57) (by decide +kernel)) (by decide +kernel)⟩
theorem lkX12_ringOf : zlkV YX12_ringOf 1 := ⟨⟨wi_X12, zWS_in (List.mem_of_getElem? (i := 1846) (by decide +kernel)) (by decide +kernel), by decide, by decide, by decide +kernel, by decide⟩, zWS_in (List.mem_of_getElem? (i := 1845) (by decide +kernel)) (by decide +kernel), zWS_in (List.mem_of_getElem? (i := 75) (by decide +kernel)) (by decide +kernel)⟩
theorem lkX12_says : zlkV YX12_says 1 := ⟨⟨wi_X12, zWS_in (List.mem_of_getElem? (i := 2041) (by decide +kernel)) (by decide +kernel), by decide, by decide, by decide +kernel, by decide⟩, zWS_in (List.mem_of_getElem? (i := 2040) (by decide +kernel)) (by decide +kernel), zWS_in (List.mem_of_getElem? (i := 100) (by decide +kernel)) (by decide +kernel)⟩
theorem lkX12_seek : zlkV YX12_seek 2 := ⟨⟨wi_X12, zWS_in (List.mem_of_getElem? (i := 1740) (by decide +kernel)) (by decide +kernel), by decide, by decide, by decide +kernel, by decide⟩, zWS_in (List.mem_of_getElem? (i := 1739) (by decide +kernel)) (by decide +kernel), zWS_in (List.mem_of_getElem? (i := 56) (by decide +kernel)) (by decide +kernel)⟩
theorem lkX12_sends : zlkV YX12_sends 2 := ⟨⟨wi_X12, zWS_in (List.mem_of_getElem? (i := 1866) (by decide +kernel)) (by decide +kernel), by decide, by decide, by decide +kernel, by decide⟩, zWS_in (List.mem_of_getElem? (i := 1865) (by decide +kernel)) (by decide +kernel), zWS_in (List.mem_of_getElem? (i := 79) (by decide +kernel)) (by decide +kernel)⟩
theorem lkX12_sign : zlkV YX12_sign 1 := ⟨⟨wi_X12, zWS_in (List.mem_of_getElem? (i := 1782) (by decide +kernel)) (by decide +kernel), by decide, by decide, by decide +kernel, by decide⟩, zWS_in (List.mem_of_getElem? (i := 1781) (by decide +kernel)) (by decide +kernel), zWS_in (List.mem_of_getElem? (i := 65) (by decide +kernel)) (by decide +kernel)⟩
theorem lkX12_spells : zlkV YX12_spells 1 := ⟨⟨wi_X12, zWS_in (List.mem_of_getElem? (i := 2032) (by decide +kernel)) (by decide +kernel), by decide, by decide, by decide +kernel, by decide⟩, zWS_in (List.mem_of_getElem? (i := 2031) (by decide +kernel)) (by decide +kernel), zWS_in (List.mem_of_getElem? (i := 98) (by decide +kernel)) (by decide +kernel)⟩
theorem lkX12_taken : zlkV YX12_taken 1 := ⟨⟨wi_X12, zWS_in (List.mem_of_getElem? (i := 1698) (by decide +kernel)) (by decide +kernel), by decide, by decide, by decide +kernel, by decide⟩, zWS_in (List.mem_of_getElem? (i := 1697) (by decide +kernel)) (by decide +kernel), zWS_in (List.mem_of_getElem? (i := 47) (by decide +kernel)) (by decide +kernel)⟩
theorem lkX12_takes : zlkV YX12_takes 2 := ⟨⟨wi_X12, zWS_in (List.mem_of_getElem? (i := 1767) (by decide +kernel)) (by decide +kernel), by decide, by decide, by decide +kernel, by decide⟩, zWS_in (List.mem_of_getElem? (i := 1766) (by decide +kernel)) (by decide +kernel), zWS_in (List.mem_of_getElem? (i := 62) (by decide +kernel)) (by decide +kernel)⟩
theorem lkX12_takesName : zlkV YX12_takesName 2 := ⟨⟨wi_X12, zWS_in (List.mem_of_getElem? (i := 1748) (by decide +kernel)) (by decide +kernel), by decide, by decide, by decide +kernel, by decide⟩, zWS_in (List.mem_of_getElem? (i := 1747) (by decide +kernel)) (by decide +kernel), zWS_in (List.mem_of_getElem? (i := 58) (by decide +kernel)) (by decide +kernel)⟩
theorem lkX12_throwsIf : zlkV YX12_throwsIf 1 := ⟨⟨wi_X12, zWS_in (List.mem_of_getElem? (i := 1814) (by decide +kernel)) (by decide +kernel), by decide, by decide, by decide +kernel, by decide⟩, zWS_in (List.mem_of_getElem? (i := 1813) (by decide +kernel)) (by decide +kernel), zWS_in (List.mem_of_getElem? (i := 70) (by decide +kernel)) (by decide +kernel)⟩
theorem lkX12_towards : zlkV YX12_towards 2 := ⟨⟨wi_X12, zWS_in (List.mem_of_getElem? (i := 1914) (by decide +kernel)) (by decide +kernel), by decide, by decide, by decide +kernel, by decide⟩, zWS_in (List.mem_of_getElem? (i := 1913) (by decide +kernel)) (by decide +kernel), zWS_in (List.mem_of_getElem? (i := 87) (by decide +kernel)) (by decide +kernel)⟩
theorem lkX12_tries : zlkV YX12_tries 0 := ⟨⟨wi_X12, zWS_in (List.mem_of_getElem? (i := 1941) (by decide +kernel)) (by decide +kernel), by decide, by decide, by decide +kernel, by decide⟩, zWS_in (List.mem_of_getElem? (i := 1940) (by decide +kernel)) (by decide +kernel), zWS_in (List.mem_of_getElem? (i := 88) (by decide +kernel)) (by decide +kernel)⟩
theorem lkX12_whomBy : zlkV YX12_whomBy 1 := ⟨⟨wi_X12, zWS_in (List.mem_of_getElem? (i := 1818) (by decide +kernel)) (by decide +kernel), by decide, by decide, by decide +kernel, by decide⟩, zWS_in (List.mem_of_getElem? (i := 1817) (by decide +kernel)) (by decide +kernel), zWS_in (List.mem_of_getElem? (i := 71) (by decide +kernel)) (by decide +kernel)⟩
theorem lkX12_whyHire : zlkV YX12_whyHire 1 := ⟨⟨wi_X12, zWS_in (List.mem_of_getElem? (i := 1890) (by decide +kernel)) (by decide +kernel), by decide, by decide, by decide +kernel, by decide⟩, zWS_in (List.mem_of_getElem? (i := 1889) (by decide +kernel)) (by decide +kernel), zWS_in (List.mem_of_getElem? (i := 82) (by decide +kernel)) (by decide +kernel)⟩
theorem lkX12_whySend : zlkV YX12_whySend 2 := ⟨⟨wi_X12, zWS_in (List.mem_of_getElem? (i := 1858) (by decide +kernel)) (by decide +kernel), by decide, by decide, by decide +kernel, by decide⟩, zWS_in (List.mem_of_getElem? (i := 1857) (by decide +kernel)) (by decide +kernel), zWS_in (List.mem_of_getElem? (i := 77) (by decide +kernel)) (by decide +kernel)⟩
theorem lkX12_worthBy : zlkV YX12_worthBy 3 := ⟨⟨wi_X12, zWS_in (List.mem_of_getElem? (i := 2004) (by decide +kernel)) (by decide +kernel), by decide, by decide, by decide +kernel, by decide⟩, zWS_in (List.mem_of_getElem? (i := 2003) (by decide +kernel)) (by decide +kernel), zWS_in (List.mem_of_getElem? (i := 95) (by decide +kernel)) (by decide +kernel)⟩
theorem lkX1_allPrints : zlkV YX1_allPrints 0 := ⟨⟨wi_X1, zWS_in (List.mem_of_getElem? (i := 872) (by decide +kernel)) (by decide +kernel), by decide, by decide, by decide +kernel, by decide⟩, zWS_in (List.mem_of_getElem? (i := 870) (by decide +kernel)) (by decide +kernel), zWS_in (List.mem_of_getElem? (i := 871) (by decide +kernel)) (by decide +kernel)⟩
theorem lkX1_begin : zlkV YX1_begin 3 := ⟨⟨wi_X1, zWS_in (List.mem_of_getElem? (i := 702) (by decide +kernel)) (by decide +kernel), by decide, by decide, by decide +kernel, by decide⟩, zWS_in (List.mem_of_getElem? (i := 700) (by decide +kernel)) (by decide +kernel), zWS_in (List.mem_of_getElem? (i := 701) (by decide +kernel)) (by decide +kernel)⟩
theorem lkX1_bunsAt : zlkV YX1_bunsAt 1 := ⟨⟨wi_X1, zWS_in (List.mem_of_getElem? (i := 824) (by decide +kernel)) (by decide +kernel), by decide, by decide, by decide +kernel, by decide⟩, zWS_in (List.mem_of_getElem? (i := 822) (by decide +kernel)) (by decide +kernel), zWS_in (List.mem_of_getElem? (i := 823) (by decide +kernel)) (by decide +kernel)⟩
theorem lkX1_bunsFound : zlkV YX1_bunsFound 0 := ⟨⟨wi_X1, zWS_in (List.mem_of_getElem? (i := 876) (by decide +kernel)) (by decide +kernel), by decide, by decide, by decide +kernel, by decide⟩, zWS_in (List.mem_of_getElem? (i := 874) (by decide +kernel)) (by decide +kernel), zWS_in (List.mem_of_getElem? (i := 875) (by decide +kernel)) (by decide +kernel)⟩
theorem lkX1_bunsOf : zlkV YX1_bunsOf 1 := ⟨⟨wi_X1, zWS_in (List.mem_of_getElem? (i := 911) (by decide +kernel)) (by decide +kernel), by decide, by decide, by decide +kernel, by decide⟩, zWS_in (List.mem_of_getElem? (i := 909) (by decide +kernel)) (by decide +kernel), zWS_in (List.mem_of_getElem? (i := 910) (by decide +kernel)) (by decide +kernel)⟩
theorem lkX1_clear : zlkV YX1_clear 0 := ⟨⟨wi_X1, zWS_in (List.mem_of_getElem? (i := 617) (by decide +kernel)) (by decide +kernel), by decide, by decide, by decide +kernel, by decide⟩, zWS_in (List.mem_of_getElem? (i := 615) (by decide +kernel)) (by decide +kernel), zWS_in (List.mem_of_getElem? (i := 616) (by decide +kernel)) (by decide +kernel)⟩
theorem lkX1_copyFrom : zlkV YX1_copyFrom 1 := ⟨⟨wi_X1, zWS_in (List.mem_of_getElem? (i := 788) (by decide +kernel)) (by decide +kernel), by decide, by decide, by decide +kernel, by decide⟩, zWS_in (List.mem_of_getElem? (i := 786) (by decide +kernel)) (by decide +kernel), zWS_in (List.mem_of_getElem? (i := 787) (by decide +kernel)) (by decide +kernel)⟩
theorem lkX1_dropsBun : zlkV YX1_dropsBun 1 := ⟨⟨wi_X1, zWS_in (List.mem_of_getElem? (i := 907) (by decide +kernel)) (by decide +kernel), by decide, by decide, by decide +kernel, by decide⟩, zWS_in (List.mem_of_getElem? (i := 905) (by decide +kernel)) (by decide +kernel), zWS_in (List.mem_of_getElem? (i := 906) (by decide +kernel)) (by decide +kernel)⟩
theorem lkX1_findBun : zlkV YX1_findBun 1 := ⟨⟨wi_X1, zWS_in (List.mem_of_getElem? (i := 962) (by decide +kernel)) (by decide +kernel), by decide, by decide, by decide +kernel, by decide⟩, zWS_in (List.mem_of_getElem? (i := 961) (by decide +kernel)) (by decide +kernel), zWS_in (List.mem_of_getElem? (i := 18) (by decide +kernel)) (by decide +kernel)⟩
theorem lkX1_firstOfRings : zlkV YX1_firstOfRings 0 := ⟨⟨wi_X1, zWS_in (List.mem_of_getElem? (i := 859) (by decide +kernel)) (by decide +kernel), by decide, by decide, by decide +kernel, by decide⟩, zWS_in (List.mem_of_getElem? (i := 857) (by decide +kernel)) (by decide +kernel), zWS_in (List.mem_of_getElem? (i := 858) (by decide +kernel)) (by decide +kernel)⟩
theorem lkX1_followedBy : zlkV YX1_followedBy 1 := ⟨⟨wi_X1, zWS_in (List.mem_of_getElem? (i := 718) (by decide +kernel)) (by decide +kernel), by decide, by decide, by decide +kernel, by decide⟩, zWS_in (List.mem_of_getElem? (i := 716) (by decide +kernel)) (by decide +kernel), zWS_in (List.mem_of_getElem? (i := 717) (by decide +kernel)) (by decide +kernel)⟩
theorem lkX1_followersOf : zlkV YX1_followersOf 1 := ⟨⟨wi_X1, zWS_in (List.mem_of_getElem? (i := 1080) (by decide +kernel)) (by decide +kernel), by decide, by decide, by decide +kernel, by decide⟩, zWS_in (List.mem_of_getElem? (i := 1078) (by decide +kernel)) (by decide +kernel), zWS_in (List.mem_of_getElem? (i := 1079) (by decide +kernel)) (by decide +kernel)⟩
theorem lkX1_followsInstead : zlkV YX1_followsInstead 3 := ⟨⟨wi_X1, zWS_in (List.mem_of_getElem? (i := 749) (by decide +kernel)) (by decide +kernel), by decide, by decide, by decide +kernel, by decide⟩, zWS_in (List.mem_of_getElem? (i := 747) (by decide +kernel)) (by decide +kernel), zWS_in (List.mem_of_getElem? (i := 748) (by decide +kernel)) (by decide +kernel)⟩
theorem lkX1_goesTo : zlkV YX1_goesTo 3 := ⟨⟨wi_X1, zWS_in (List.mem_of_getElem? (i := 726) (by decide +kernel)) (by decide +kernel), by decide, by decide, by decide +kernel, by decide⟩, zWS_in (List.mem_of_getElem? (i := 724) (by decide +kernel)) (by decide +kernel), zWS_in (List.mem_of_getElem? (i := 725) (by decide +kernel)) (by decide +kernel)⟩
theorem lkX1_isIdle : zlkV YX1_isIdle 1 := ⟨⟨wi_X1, zWS_in (List.mem_of_getElem? (i := 1066) (by decide +kernel)) (by decide +kernel), by decide, by decide, by decide +kernel, by decide⟩, zWS_in (List.mem_of_getElem? (i := 1064) (by decide +kernel)) (by decide +kernel), zWS_in (List.mem_of_getElem? (i := 1065) (by decide +kernel)) (by decide +kernel)⟩
theorem lkX1_leavesOff : zlkV YX1_leavesOff 1 := ⟨⟨wi_X1, zWS_in (List.mem_of_getElem? (i := 919) (by decide +kernel)) (by decide +kernel), by decide, by decide, by decide +kernel, by decide⟩, zWS_in (List.mem_of_getElem? (i := 917) (by decide +kernel)) (by decide +kernel), zWS_in (List.mem_of_getElem? (i := 918) (by decide +kernel)) (by decide +kernel)⟩
theorem lkX1_mayBe : zlkS YX1_mayBe 1 := ⟨⟨wi_X1, zWS_in (List.mem_of_getElem? (i := 705) (by decide +kernel)) (by decide +kernel), by decide, by decide, by decide +kernel, by decide⟩, zWS_in (List.mem_of_getElem? (i := 704) (by decide +kernel)) (by decide +kernel)⟩
theorem lkX1_mayBeCorner : zlkS YX1_mayBeCorner 1 := ⟨⟨wi_X1, zWS_in (List.mem_of_getElem? (i := 827) (by decide +kernel)) (by decide +kernel), by decide, by decide, by decide +kernel, by decide⟩, zWS_in (List.mem_of_getElem? (i := 826) (by decide +kernel)) (by decide +kernel)⟩
theorem lkX1_minuteNow : zlkV YX1_minuteNow 0 := ⟨⟨wi_X1, zWS_in (List.mem_of_getElem? (i := 839) (by decide +kernel)) (by decide +kernel), by decide, by decide, by decide +kernel, by decide⟩, zWS_in (List.mem_of_getElem? (i := 837) (by decide +kernel)) (by decide +kernel), zWS_in (List.mem_of_getElem? (i := 838) (by decide +kernel)) (by decide +kernel)⟩
theorem lkX1_minutesLeft : zlkV YX1_minutesLeft 0 := ⟨⟨wi_X1, zWS_in (List.mem_of_getElem? (i := 932) (by decide +kernel)) (by decide +kernel), by decide, by decide, by decide +kernel, by decide⟩, zWS_in (List.mem_of_getElem? (i := 930) (by decide +kernel)) (by decide +kernel), zWS_in (List.mem_of_getElem? (i := 931) (by decide +kernel)) (by decide +kernel)⟩
theorem lkX1_move : zlkV YX1_move 2 := ⟨⟨wi_X1, zWS_in (List.mem_of_getElem? (i := 957) (by decide +kernel)) (by decide +kernel), by decide, by decide, by decide +kernel, by decide⟩, zWS_in (List.mem_of_getElem? (i := 956) (by decide +kernel)) (by decide +kernel), zWS_in (List.mem_of_getElem? (i := 17) (by decide +kernel)) (by decide +kernel)⟩
theorem lkX1_nextPlace : zlkV YX1_nextPlace 2 := ⟨⟨wi_X1, zWS_in (List.mem_of_getElem? (i := 941) (by decide +kernel)) (by decide +kernel), by decide, by decide, by decide +kernel, by decide⟩, zWS_in (List.mem_of_getElem? (i := 940) (by decide +kernel)) (by decide +kernel), zWS_in (List.mem_of_getElem? (i := 15) (by decide +kernel)) (by decide +kernel)⟩
theorem lkX1_passMinutes : zlkV YX1_passMinutes 2 := ⟨⟨wi_X1, zWS_in (List.mem_of_getElem? (i := 937) (by decide +kernel)) (by decide +kernel), by decide, by decide, by decide +kernel, by decide⟩, zWS_in (List.mem_of_getElem? (i := 935) (by decide +kernel)) (by decide +kernel), zWS_in (List.mem_of_getElem? (i := 936) (by decide +kernel)) (by decide +kernel)⟩
theorem lkX1_printsAt : zlkV YX1_printsAt 1 := ⟨⟨wi_X1, zWS_in (List.mem_of_getElem? (i := 831) (by decide +kernel)) (by decide +kernel), by decide, by decide, by decide +kernel, by decide⟩, zWS_in (List.mem_of_getElem? (i := 829) (by decide +kernel)) (by decide +kernel), zWS_in (List.mem_of_getElem? (i := 830) (by decide +kernel)) (by decide +kernel)⟩
theorem lkX1_ringOf : zlkV YX1_ringOf 1 := ⟨⟨wi_X1, zWS_in (List.mem_of_getElem? (i := 855) (by decide +kernel)) (by decide +kernel), by decide, by decide, by decide +kernel, by decide⟩, zWS_in (List.mem_of_getElem? (i := 853) (by decide +kernel)) (by decide +kernel), zWS_in (List.mem_of_getElem? (i := 854) (by decide +kernel)) (by decide +kernel)⟩
theorem lkX1_shortenWay : zlkV YX1_shortenWay 1 := ⟨⟨wi_X1, zWS_in (List.mem_of_getElem? (i := 953) (by decide +kernel)) (by decide +kernel), by decide, by decide, by decide +kernel, by decide⟩, zWS_in (List.mem_of_getElem? (i := 952) (by decide +kernel)) (by decide +kernel), zWS_in (List.mem_of_getElem? (i := 16) (by decide +kernel)) (by decide +kernel)⟩
theorem lkX1_takesOn : zlkV YX1_takesOn 3 := ⟨⟨wi_X1, zWS_in (List.mem_of_getElem? (i := 745) (by decide +kernel)) (by decide +kernel), by decide, by decide, by decide +kernel, by decide⟩, zWS_in (List.mem_of_getElem? (i := 743) (by decide +kernel)) (by decide +kernel), zWS_in (List.mem_of_getElem? (i := 744) (by decide +kernel)) (by decide +kernel)⟩
theorem lkX1_wasAt : zlkV YX1_wasAt 2 := ⟨⟨wi_X1, zWS_in (List.mem_of_getElem? (i := 736) (by decide +kernel)) (by decide +kernel), by decide, by decide, by decide +kernel, by decide⟩, zWS_in (List.mem_of_getElem? (i := 734) (by decide +kernel)) (by decide +kernel), zWS_in (List.mem_of_getElem? (i := 735) (by decide +kernel)) (by decide +kernel)⟩
theorem lkX1_wayLeft : zlkV YX1_wayLeft 1 := ⟨⟨wi_X1, zWS_in (List.mem_of_getElem? (i := 722) (by decide +kernel)) (by decide +kernel), by decide, by decide, by decide +kernel, by decide⟩, zWS_in (List.mem_of_getElem? (i := 720) (by decide +kernel)) (by decide +kernel), zWS_in (List.mem_of_getElem? (i := 721) (by decide +kernel)) (by decide +kernel)⟩
theorem lkX1_whereIs : zlkV YX1_whereIs 1 := ⟨⟨wi_X1, zWS_in (List.mem_of_getElem? (i := 732) (by decide +kernel)) (by decide +kernel), by decide, by decide, by decide +kernel, by decide⟩, zWS_in (List.mem_of_getElem? (i := 730) (by decide +kernel)) (by decide +kernel), zWS_in (List.mem_of_getElem? (i := 731) (by decide +kernel)) (by decide +kernel)⟩
theorem lkX1_whoFollows : zlkV YX1_whoFollows 0 := ⟨⟨wi_X1, zWS_in (List.mem_of_getElem? (i := 843) (by decide +kernel)) (by decide +kernel), by decide, by decide, by decide +kernel, by decide⟩, zWS_in (List.mem_of_getElem? (i := 841) (by decide +kernel)) (by decide +kernel), zWS_in (List.mem_of_getElem? (i := 842) (by decide +kernel)) (by decide +kernel)⟩
theorem lkX1_whoHasWay : zlkV YX1_whoHasWay 0 := ⟨⟨wi_X1, zWS_in (List.mem_of_getElem? (i := 847) (by decide +kernel)) (by decide +kernel), by decide, by decide, by decide +kernel, by decide⟩, zWS_in (List.mem_of_getElem? (i := 845) (by decide +kernel)) (by decide +kernel), zWS_in (List.mem_of_getElem? (i := 846) (by decide +kernel)) (by decide +kernel)⟩
theorem lkX1_whoIsRinged : zlkV YX1_whoIsRinged 0 := ⟨⟨wi_X1, zWS_in (List.mem_of_getElem? (i := 851) (by decide +kernel)) (by decide +kernel), by decide, by decide, by decide +kernel, by decide⟩, zWS_in (List.mem_of_getElem? (i := 849) (by decide +kernel)) (by decide +kernel), zWS_in (List.mem_of_getElem? (i := 850) (by decide +kernel)) (by decide +kernel)⟩
theorem lkX1_whoWasAt : zlkV YX1_whoWasAt 2 := ⟨⟨wi_X1, zWS_in (List.mem_of_getElem? (i := 820) (by decide +kernel)) (by decide +kernel), by decide, by decide, by decide +kernel, by decide⟩, zWS_in (List.mem_of_getElem? (i := 818) (by decide +kernel)) (by decide +kernel), zWS_in (List.mem_of_getElem? (i := 819) (by decide +kernel)) (by decide +kernel)⟩
theorem lkX2_act : zlkV YX2_act 3 := ⟨⟨wi_X2, zWS_in (List.mem_of_getElem? (i := 1172) (by decide +kernel)) (by decide +kernel), by decide, by decide, by decide +kernel, by decide⟩, zWS_in (List.mem_of_getElem? (i := 1171) (by decide +kernel)) (by decide +kernel), zWS_in (List.mem_of_getElem? (i := 26) (by decide +kernel)) (by decide +kernel)⟩
theorem lkX2_draw : zlkV YX2_draw 1 := ⟨⟨wi_X2, zWS_in (List.mem_of_getElem? (i := 1176) (by decide +kernel)) (by decide +kernel), by decide, by decide, by decide +kernel, by decide⟩, zWS_in (List.mem_of_getElem? (i := 1175) (by decide +kernel)) (by decide +kernel), zWS_in (List.mem_of_getElem? (i := 27) (by decide +kernel)) (by decide +kernel)⟩
theorem lkX2_passMinutes : zlkV YX2_passMinutes 4 := ⟨⟨wi_X2, zWS_in (List.mem_of_getElem? (i := 1165) (by decide +kernel)) (by decide +kernel), by decide, by decide, by decide +kernel, by decide⟩, zWS_in (List.mem_of_getElem? (i := 1163) (by decide +kernel)) (by decide +kernel), zWS_in (List.mem_of_getElem? (i := 1164) (by decide +kernel)) (by decide +kernel)⟩
theorem lkX3_clear : zlkV YX3_clear 0 := ⟨⟨wi_X3, zWS_in (List.mem_of_getElem? (i := 797) (by decide +kernel)) (by decide +kernel), by decide, by decide, by decide +kernel, by decide⟩, zWS_in (List.mem_of_getElem? (i := 795) (by decide +kernel)) (by decide +kernel), zWS_in (List.mem_of_getElem? (i := 796) (by decide +kernel)) (by decide +kernel)⟩
theorem lkX5_addByte : zlkV YX5_addByte 1 := ⟨⟨wi_X5, zWS_in (List.mem_of_getElem? (i := 1125) (by decide +kernel)) (by decide +kernel), by decide, by decide, by decide +kernel, by decide⟩, zWS_in (List.mem_of_getElem? (i := 1124) (by decide +kernel)) (by decide +kernel), zWS_in (List.mem_of_getElem? (i := 25) (by decide +kernel)) (by decide +kernel)⟩
theorem lkX5_byteOf : zlkV YX5_byteOf 1 := ⟨⟨wi_X5, zWS_in (List.mem_of_getElem? (i := 1157) (by decide +kernel)) (by decide +kernel), by decide, by decide, by decide +kernel, by decide⟩, zWS_in (List.mem_of_getElem? (i := 1155) (by decide +kernel)) (by decide +kernel), zWS_in (List.mem_of_getElem? (i := 1156) (by decide +kernel)) (by decide +kernel)⟩
theorem lkX6_chosenFor : zlkV YX6_chosenFor 1 := ⟨⟨wi_X6, zWS_in (List.mem_of_getElem? (i := 1103) (by decide +kernel)) (by decide +kernel), by decide, by decide, by decide +kernel, by decide⟩, zWS_in (List.mem_of_getElem? (i := 1101) (by decide +kernel)) (by decide +kernel), zWS_in (List.mem_of_getElem? (i := 1102) (by decide +kernel)) (by decide +kernel)⟩
theorem lkX6_farInAll : zlkV YX6_farInAll 0 := ⟨⟨wi_X6, zWS_in (List.mem_of_getElem? (i := 1095) (by decide +kernel)) (by decide +kernel), by decide, by decide, by decide +kernel, by decide⟩, zWS_in (List.mem_of_getElem? (i := 1093) (by decide +kernel)) (by decide +kernel), zWS_in (List.mem_of_getElem? (i := 1094) (by decide +kernel)) (by decide +kernel)⟩
theorem lkX7_areBeside : zlkV YX7_areBeside 2 := ⟨⟨wi_X7, zWS_in (List.mem_of_getElem? (i := 679) (by decide +kernel)) (by decide +kernel), by decide, by decide, by decide +kernel, by decide⟩, zWS_in (List.mem_of_getElem? (i := 677) (by decide +kernel)) (by decide +kernel), zWS_in (List.mem_of_getElem? (i := 678) (by decide +kernel)) (by decide +kernel)⟩
theorem lkX7_besideAny : zlkV YX7_besideAny 1 := ⟨⟨wi_X7, zWS_in (List.mem_of_getElem? (i := 765) (by decide +kernel)) (by decide +kernel), by decide, by decide, by decide +kernel, by decide⟩, zWS_in (List.mem_of_getElem? (i := 764) (by decide +kernel)) (by decide +kernel), zWS_in (List.mem_of_getElem? (i := 11) (by decide +kernel)) (by decide +kernel)⟩
theorem lkX7_besideOf : zlkV YX7_besideOf 1 := ⟨⟨wi_X7, zWS_in (List.mem_of_getElem? (i := 687) (by decide +kernel)) (by decide +kernel), by decide, by decide, by decide +kernel, by decide⟩, zWS_in (List.mem_of_getElem? (i := 685) (by decide +kernel)) (by decide +kernel), zWS_in (List.mem_of_getElem? (i := 686) (by decide +kernel)) (by decide +kernel)⟩
theorem lkX7_clear : zlkV YX7_clear 0 := ⟨⟨wi_X7, zWS_in (List.mem_of_getElem? (i := 612) (by decide +kernel)) (by decide +kernel), by decide, by decide, by decide +kernel, by decide⟩, zWS_in (List.mem_of_getElem? (i := 611) (by decide +kernel)) (by decide +kernel), zWS_in (List.mem_of_getElem? (i := 1) (by decide +kernel)) (by decide +kernel)⟩
theorem lkX7_copyFrom : zlkV YX7_copyFrom 1 := ⟨⟨wi_X7, zWS_in (List.mem_of_getElem? (i := 781) (by decide +kernel)) (by decide +kernel), by decide, by decide, by decide +kernel, by decide⟩, zWS_in (List.mem_of_getElem? (i := 779) (by decide +kernel)) (by decide +kernel), zWS_in (List.mem_of_getElem? (i := 780) (by decide +kernel)) (by decide +kernel)⟩
theorem lkX7_cornerNamed : zlkV YX7_cornerNamed 1 := ⟨⟨wi_X7, zWS_in (List.mem_of_getElem? (i := 661) (by decide +kernel)) (by decide +kernel), by decide, by decide, by decide +kernel, by decide⟩, zWS_in (List.mem_of_getElem? (i := 659) (by decide +kernel)) (by decide +kernel), zWS_in (List.mem_of_getElem? (i := 660) (by decide +kernel)) (by decide +kernel)⟩
theorem lkX7_corners : zlkV YX7_corners 0 := ⟨⟨wi_X7, zWS_in (List.mem_of_getElem? (i := 1183) (by decide +kernel)) (by decide +kernel), by decide, by decide, by decide +kernel, by decide⟩, zWS_in (List.mem_of_getElem? (i := 1181) (by decide +kernel)) (by decide +kernel), zWS_in (List.mem_of_getElem? (i := 1182) (by decide +kernel)) (by decide +kernel)⟩
theorem lkX7_farFrom : zlkV YX7_farFrom 2 := ⟨⟨wi_X7, zWS_in (List.mem_of_getElem? (i := 949) (by decide +kernel)) (by decide +kernel), by decide, by decide, by decide +kernel, by decide⟩, zWS_in (List.mem_of_getElem? (i := 947) (by decide +kernel)) (by decide +kernel), zWS_in (List.mem_of_getElem? (i := 948) (by decide +kernel)) (by decide +kernel)⟩
theorem lkX7_hasCorner : zlkV YX7_hasCorner 1 := ⟨⟨wi_X7, zWS_in (List.mem_of_getElem? (i := 683) (by decide +kernel)) (by decide +kernel), by decide, by decide, by decide +kernel, by decide⟩, zWS_in (List.mem_of_getElem? (i := 681) (by decide +kernel)) (by decide +kernel), zWS_in (List.mem_of_getElem? (i := 682) (by decide +kernel)) (by decide +kernel)⟩
theorem lkX7_hasPerson : zlkV YX7_hasPerson 1 := ⟨⟨wi_X7, zWS_in (List.mem_of_getElem? (i := 809) (by decide +kernel)) (by decide +kernel), by decide, by decide, by decide +kernel, by decide⟩, zWS_in (List.mem_of_getElem? (i := 807) (by decide +kernel)) (by decide +kernel), zWS_in (List.mem_of_getElem? (i := 808) (by decide +kernel)) (by decide +kernel)⟩
theorem lkX7_leastBar : zlkV YX7_leastBar 2 := ⟨⟨wi_X7, zWS_in (List.mem_of_getElem? (i := 1044) (by decide +kernel)) (by decide +kernel), by decide, by decide, by decide +kernel, by decide⟩, zWS_in (List.mem_of_getElem? (i := 1042) (by decide +kernel)) (by decide +kernel), zWS_in (List.mem_of_getElem? (i := 1043) (by decide +kernel)) (by decide +kernel)⟩
theorem lkX7_measure : zlkV YX7_measure 0 := ⟨⟨wi_X7, zWS_in (List.mem_of_getElem? (i := 757) (by decide +kernel)) (by decide +kernel), by decide, by decide, by decide +kernel, by decide⟩, zWS_in (List.mem_of_getElem? (i := 756) (by decide +kernel)) (by decide +kernel), zWS_in (List.mem_of_getElem? (i := 9) (by decide +kernel)) (by decide +kernel)⟩
theorem lkX7_needNewName : zlkV YX7_needNewName 1 := ⟨⟨wi_X7, zWS_in (List.mem_of_getElem? (i := 646) (by decide +kernel)) (by decide +kernel), by decide, by decide, by decide +kernel, by decide⟩, zWS_in (List.mem_of_getElem? (i := 645) (by decide +kernel)) (by decide +kernel), zWS_in (List.mem_of_getElem? (i := 4) (by decide +kernel)) (by decide +kernel)⟩
theorem lkX7_noteFar : zlkV YX7_noteFar 3 := ⟨⟨wi_X7, zWS_in (List.mem_of_getElem? (i := 761) (by decide +kernel)) (by decide +kernel), by decide, by decide, by decide +kernel, by decide⟩, zWS_in (List.mem_of_getElem? (i := 760) (by decide +kernel)) (by decide +kernel), zWS_in (List.mem_of_getElem? (i := 10) (by decide +kernel)) (by decide +kernel)⟩
theorem lkX7_personNamed : zlkV YX7_personNamed 1 := ⟨⟨wi_X7, zWS_in (List.mem_of_getElem? (i := 665) (by decide +kernel)) (by decide +kernel), by decide, by decide, by decide +kernel, by decide⟩, zWS_in (List.mem_of_getElem? (i := 663) (by decide +kernel)) (by decide +kernel), zWS_in (List.mem_of_getElem? (i := 664) (by decide +kernel)) (by decide +kernel)⟩
theorem lkX7_persons : zlkV YX7_persons 0 := ⟨⟨wi_X7, zWS_in (List.mem_of_getElem? (i := 1016) (by decide +kernel)) (by decide +kernel), by decide, by decide, by decide +kernel, by decide⟩, zWS_in (List.mem_of_getElem? (i := 1014) (by decide +kernel)) (by decide +kernel), zWS_in (List.mem_of_getElem? (i := 1015) (by decide +kernel)) (by decide +kernel)⟩
theorem lkX7_reached : zlkV YX7_reached 2 := ⟨⟨wi_X7, zWS_in (List.mem_of_getElem? (i := 1049) (by decide +kernel)) (by decide +kernel), by decide, by decide, by decide +kernel, by decide⟩, zWS_in (List.mem_of_getElem? (i := 1048) (by decide +kernel)) (by decide +kernel), zWS_in (List.mem_of_getElem? (i := 22) (by decide +kernel)) (by decide +kernel)⟩
theorem lkX7_readCorner : zlkV YX7_readCorner 1 := ⟨⟨wi_X7, zWS_in (List.mem_of_getElem? (i := 637) (by decide +kernel)) (by decide +kernel), by decide, by decide, by decide +kernel, by decide⟩, zWS_in (List.mem_of_getElem? (i := 636) (by decide +kernel)) (by decide +kernel), zWS_in (List.mem_of_getElem? (i := 3) (by decide +kernel)) (by decide +kernel)⟩
theorem lkX7_readFollows : zlkV YX7_readFollows 2 := ⟨⟨wi_X7, zWS_in (List.mem_of_getElem? (i := 741) (by decide +kernel)) (by decide +kernel), by decide, by decide, by decide +kernel, by decide⟩, zWS_in (List.mem_of_getElem? (i := 740) (by decide +kernel)) (by decide +kernel), zWS_in (List.mem_of_getElem? (i := 8) (by decide +kernel)) (by decide +kernel)⟩
theorem lkX7_readFrom : zlkV YX7_readFrom 2 := ⟨⟨wi_X7, zWS_in (List.mem_of_getElem? (i := 608) (by decide +kernel)) (by decide +kernel), by decide, by decide, by decide +kernel, by decide⟩, zWS_in (List.mem_of_getElem? (i := 606) (by decide +kernel)) (by decide +kernel), zWS_in (List.mem_of_getElem? (i := 607) (by decide +kernel)) (by decide +kernel)⟩
theorem lkX7_readLine : zlkV YX7_readLine 2 := ⟨⟨wi_X7, zWS_in (List.mem_of_getElem? (i := 629) (by decide +kernel)) (by decide +kernel), by decide, by decide, by decide +kernel, by decide⟩, zWS_in (List.mem_of_getElem? (i := 628) (by decide +kernel)) (by decide +kernel), zWS_in (List.mem_of_getElem? (i := 2) (by decide +kernel)) (by decide +kernel)⟩
theorem lkX7_readNext : zlkV YX7_readNext 2 := ⟨⟨wi_X7, zWS_in (List.mem_of_getElem? (i := 709) (by decide +kernel)) (by decide +kernel), by decide, by decide, by decide +kernel, by decide⟩, zWS_in (List.mem_of_getElem? (i := 708) (by decide +kernel)) (by decide +kernel), zWS_in (List.mem_of_getElem? (i := 7) (by decide +kernel)) (by decide +kernel)⟩
theorem lkX7_readPerson : zlkV YX7_readPerson 2 := ⟨⟨wi_X7, zWS_in (List.mem_of_getElem? (i := 694) (by decide +kernel)) (by decide +kernel), by decide, by decide, by decide +kernel, by decide⟩, zWS_in (List.mem_of_getElem? (i := 693) (by decide +kernel)) (by decide +kernel), zWS_in (List.mem_of_getElem? (i := 6) (by decide +kernel)) (by decide +kernel)⟩
theorem lkX7_readStreet : zlkV YX7_readStreet 1 := ⟨⟨wi_X7, zWS_in (List.mem_of_getElem? (i := 669) (by decide +kernel)) (by decide +kernel), by decide, by decide, by decide +kernel, by decide⟩, zWS_in (List.mem_of_getElem? (i := 668) (by decide +kernel)) (by decide +kernel), zWS_in (List.mem_of_getElem? (i := 5) (by decide +kernel)) (by decide +kernel)⟩
theorem lkX7_stepTowards : zlkV YX7_stepTowards 2 := ⟨⟨wi_X7, zWS_in (List.mem_of_getElem? (i := 945) (by decide +kernel)) (by decide +kernel), by decide, by decide, by decide +kernel, by decide⟩, zWS_in (List.mem_of_getElem? (i := 943) (by decide +kernel)) (by decide +kernel), zWS_in (List.mem_of_getElem? (i := 944) (by decide +kernel)) (by decide +kernel)⟩
theorem lkX7_streets : zlkV YX7_streets 0 := ⟨⟨wi_X7, zWS_in (List.mem_of_getElem? (i := 1387) (by decide +kernel)) (by decide +kernel), by decide, by decide, by decide +kernel, by decide⟩, zWS_in (List.mem_of_getElem? (i := 1385) (by decide +kernel)) (by decide +kernel), zWS_in (List.mem_of_getElem? (i := 1386) (by decide +kernel)) (by decide +kernel)⟩
theorem lkX8_atEnd : zlkV YX8_atEnd 0 := ⟨⟨wi_X8, zWS_in (List.mem_of_getElem? (i := 625) (by decide +kernel)) (by decide +kernel), by decide, by decide, by decide +kernel, by decide⟩, zWS_in (List.mem_of_getElem? (i := 623) (by decide +kernel)) (by decide +kernel), zWS_in (List.mem_of_getElem? (i := 624) (by decide +kernel)) (by decide +kernel)⟩
theorem lkX8_fail : zlkV YX8_fail 1 := ⟨⟨wi_X8, zWS_in (List.mem_of_getElem? (i := 641) (by decide +kernel)) (by decide +kernel), by decide, by decide, by decide +kernel, by decide⟩, zWS_in (List.mem_of_getElem? (i := 639) (by decide +kernel)) (by decide +kernel), zWS_in (List.mem_of_getElem? (i := 640) (by decide +kernel)) (by decide +kernel)⟩
theorem lkX8_faultKind : zlkV YX8_faultKind 0 := ⟨⟨wi_X8, zWS_in (List.mem_of_getElem? (i := 769) (by decide +kernel)) (by decide +kernel), by decide, by decide, by decide +kernel, by decide⟩, zWS_in (List.mem_of_getElem? (i := 767) (by decide +kernel)) (by decide +kernel), zWS_in (List.mem_of_getElem? (i := 768) (by decide +kernel)) (by decide +kernel)⟩
theorem lkX8_goOn : zlkV YX8_goOn 0 := ⟨⟨wi_X8, zWS_in (List.mem_of_getElem? (i := 586) (by decide +kernel)) (by decide +kernel), by decide, by decide, by decide +kernel, by decide⟩, zWS_in (List.mem_of_getElem? (i := 584) (by decide +kernel)) (by decide +kernel), zWS_in (List.mem_of_getElem? (i := 585) (by decide +kernel)) (by decide +kernel)⟩
theorem lkX8_isGood : zlkV YX8_isGood 0 := ⟨⟨wi_X8, zWS_in (List.mem_of_getElem? (i := 621) (by decide +kernel)) (by decide +kernel), by decide, by decide, by decide +kernel, by decide⟩, zWS_in (List.mem_of_getElem? (i := 619) (by decide +kernel)) (by decide +kernel), zWS_in (List.mem_of_getElem? (i := 620) (by decide +kernel)) (by decide +kernel)⟩
theorem lkX8_isSign : zlkV YX8_isSign 1 := ⟨⟨wi_X8, zWS_in (List.mem_of_getElem? (i := 1267) (by decide +kernel)) (by decide +kernel), by decide, by decide, by decide +kernel, by decide⟩, zWS_in (List.mem_of_getElem? (i := 1265) (by decide +kernel)) (by decide +kernel), zWS_in (List.mem_of_getElem? (i := 1266) (by decide +kernel)) (by decide +kernel)⟩
theorem lkX8_isSomeSign : zlkS YX8_isSomeSign 1 := ⟨⟨wi_X8, zWS_in (List.mem_of_getElem? (i := 597) (by decide +kernel)) (by decide +kernel), by decide, by decide, by decide +kernel, by decide⟩, zWS_in (List.mem_of_getElem? (i := 596) (by decide +kernel)) (by decide +kernel)⟩
theorem lkX8_needCorner : zlkV YX8_needCorner 1 := ⟨⟨wi_X8, zWS_in (List.mem_of_getElem? (i := 673) (by decide +kernel)) (by decide +kernel), by decide, by decide, by decide +kernel, by decide⟩, zWS_in (List.mem_of_getElem? (i := 671) (by decide +kernel)) (by decide +kernel), zWS_in (List.mem_of_getElem? (i := 672) (by decide +kernel)) (by decide +kernel)⟩
theorem lkX8_needName : zlkV YX8_needName 0 := ⟨⟨wi_X8, zWS_in (List.mem_of_getElem? (i := 650) (by decide +kernel)) (by decide +kernel), by decide, by decide, by decide +kernel, by decide⟩, zWS_in (List.mem_of_getElem? (i := 648) (by decide +kernel)) (by decide +kernel), zWS_in (List.mem_of_getElem? (i := 649) (by decide +kernel)) (by decide +kernel)⟩
theorem lkX8_needPerson : zlkV YX8_needPerson 1 := ⟨⟨wi_X8, zWS_in (List.mem_of_getElem? (i := 713) (by decide +kernel)) (by decide +kernel), by decide, by decide, by decide +kernel, by decide⟩, zWS_in (List.mem_of_getElem? (i := 711) (by decide +kernel)) (by decide +kernel), zWS_in (List.mem_of_getElem? (i := 712) (by decide +kernel)) (by decide +kernel)⟩
theorem lkX8_place : zlkV YX8_place 0 := ⟨⟨wi_X8, zWS_in (List.mem_of_getElem? (i := 777) (by decide +kernel)) (by decide +kernel), by decide, by decide, by decide +kernel, by decide⟩, zWS_in (List.mem_of_getElem? (i := 775) (by decide +kernel)) (by decide +kernel), zWS_in (List.mem_of_getElem? (i := 776) (by decide +kernel)) (by decide +kernel)⟩
theorem lkX8_readRun : zlkV YX8_readRun 0 := ⟨⟨wi_X8, zWS_in (List.mem_of_getElem? (i := 601) (by decide +kernel)) (by decide +kernel), by decide, by decide, by decide +kernel, by decide⟩, zWS_in (List.mem_of_getElem? (i := 600) (by decide +kernel)) (by decide +kernel), zWS_in (List.mem_of_getElem? (i := 0) (by decide +kernel)) (by decide +kernel)⟩
theorem lkX8_start : zlkV YX8_start 1 := ⟨⟨wi_X8, zWS_in (List.mem_of_getElem? (i := 582) (by decide +kernel)) (by decide +kernel), by decide, by decide, by decide +kernel, by decide⟩, zWS_in (List.mem_of_getElem? (i := 580) (by decide +kernel)) (by decide +kernel), zWS_in (List.mem_of_getElem? (i := 581) (by decide +kernel)) (by decide +kernel)⟩
theorem lkX8_takeComparison : zlkV YX8_takeComparison 0 := ⟨⟨wi_X8, zWS_in (List.mem_of_getElem? (i := 1283) (by decide +kernel)) (by decide +kernel), by decide, by decide, by decide +kernel, by decide⟩, zWS_in (List.mem_of_getElem? (i := 1281) (by decide +kernel)) (by decide +kernel), zWS_in (List.mem_of_getElem? (i := 1282) (by decide +kernel)) (by decide +kernel)⟩
theorem lkX8_takeNumber : zlkV YX8_takeNumber 2 := ⟨⟨wi_X8, zWS_in (List.mem_of_getElem? (i := 698) (by decide +kernel)) (by decide +kernel), by decide, by decide, by decide +kernel, by decide⟩, zWS_in (List.mem_of_getElem? (i := 696) (by decide +kernel)) (by decide +kernel), zWS_in (List.mem_of_getElem? (i := 697) (by decide +kernel)) (by decide +kernel)⟩
theorem lkX8_takeSign : zlkV YX8_takeSign 1 := ⟨⟨wi_X8, zWS_in (List.mem_of_getElem? (i := 753) (by decide +kernel)) (by decide +kernel), by decide, by decide, by decide +kernel, by decide⟩, zWS_in (List.mem_of_getElem? (i := 751) (by decide +kernel)) (by decide +kernel), zWS_in (List.mem_of_getElem? (i := 752) (by decide +kernel)) (by decide +kernel)⟩
theorem lkX8_toldWord : zlkV YX8_toldWord 0 := ⟨⟨wi_X8, zWS_in (List.mem_of_getElem? (i := 633) (by decide +kernel)) (by decide +kernel), by decide, by decide, by decide +kernel, by decide⟩, zWS_in (List.mem_of_getElem? (i := 631) (by decide +kernel)) (by decide +kernel), zWS_in (List.mem_of_getElem? (i := 632) (by decide +kernel)) (by decide +kernel)⟩
theorem lkX8_withLetter : zlkS YX8_withLetter 2 := ⟨⟨wi_X8, zWS_in (List.mem_of_getElem? (i := 222) (by decide +kernel)) (by decide +kernel), by decide, by decide, by decide +kernel, by decide⟩, zWS_in (List.mem_of_getElem? (i := 221) (by decide +kernel)) (by decide +kernel)⟩
theorem lkX8_wordHere : zlkV YX8_wordHere 0 := ⟨⟨wi_X8, zWS_in (List.mem_of_getElem? (i := 657) (by decide +kernel)) (by decide +kernel), by decide, by decide, by decide +kernel, by decide⟩, zWS_in (List.mem_of_getElem? (i := 655) (by decide +kernel)) (by decide +kernel), zWS_in (List.mem_of_getElem? (i := 656) (by decide +kernel)) (by decide +kernel)⟩
theorem lkX9_addPart : zlkV YX9_addPart 3 := ⟨⟨wi_X9, zWS_in (List.mem_of_getElem? (i := 1288) (by decide +kernel)) (by decide +kernel), by decide, by decide, by decide +kernel, by decide⟩, zWS_in (List.mem_of_getElem? (i := 1287) (by decide +kernel)) (by decide +kernel), zWS_in (List.mem_of_getElem? (i := 34) (by decide +kernel)) (by decide +kernel)⟩
theorem lkX9_addWaiting : zlkV YX9_addWaiting 1 := ⟨⟨wi_X9, zWS_in (List.mem_of_getElem? (i := 1273) (by decide +kernel)) (by decide +kernel), by decide, by decide, by decide +kernel, by decide⟩, zWS_in (List.mem_of_getElem? (i := 1272) (by decide +kernel)) (by decide +kernel), zWS_in (List.mem_of_getElem? (i := 32) (by decide +kernel)) (by decide +kernel)⟩
theorem lkX9_clear : zlkV YX9_clear 0 := ⟨⟨wi_X9, zWS_in (List.mem_of_getElem? (i := 793) (by decide +kernel)) (by decide +kernel), by decide, by decide, by decide +kernel, by decide⟩, zWS_in (List.mem_of_getElem? (i := 791) (by decide +kernel)) (by decide +kernel), zWS_in (List.mem_of_getElem? (i := 792) (by decide +kernel)) (by decide +kernel)⟩
theorem lkX9_compares : zlkV YX9_compares 2 := ⟨⟨wi_X9, zWS_in (List.mem_of_getElem? (i := 1348) (by decide +kernel)) (by decide +kernel), by decide, by decide, by decide +kernel, by decide⟩, zWS_in (List.mem_of_getElem? (i := 1347) (by decide +kernel)) (by decide +kernel), zWS_in (List.mem_of_getElem? (i := 42) (by decide +kernel)) (by decide +kernel)⟩
theorem lkX9_copyFrom : zlkV YX9_copyFrom 1 := ⟨⟨wi_X9, zWS_in (List.mem_of_getElem? (i := 1312) (by decide +kernel)) (by decide +kernel), by decide, by decide, by decide +kernel, by decide⟩, zWS_in (List.mem_of_getElem? (i := 1310) (by decide +kernel)) (by decide +kernel), zWS_in (List.mem_of_getElem? (i := 1311) (by decide +kernel)) (by decide +kernel)⟩
theorem lkX9_endOne : zlkV YX9_endOne 0 := ⟨⟨wi_X9, zWS_in (List.mem_of_getElem? (i := 1292) (by decide +kernel)) (by decide +kernel), by decide, by decide, by decide +kernel, by decide⟩, zWS_in (List.mem_of_getElem? (i := 1291) (by decide +kernel)) (by decide +kernel), zWS_in (List.mem_of_getElem? (i := 35) (by decide +kernel)) (by decide +kernel)⟩
theorem lkX9_fitsPlain : zlkV YX9_fitsPlain 3 := ⟨⟨wi_X9, zWS_in (List.mem_of_getElem? (i := 1338) (by decide +kernel)) (by decide +kernel), by decide, by decide, by decide +kernel, by decide⟩, zWS_in (List.mem_of_getElem? (i := 1337) (by decide +kernel)) (by decide +kernel), zWS_in (List.mem_of_getElem? (i := 41) (by decide +kernel)) (by decide +kernel)⟩
theorem lkX9_isThere : zlkV YX9_isThere 0 := ⟨⟨wi_X9, zWS_in (List.mem_of_getElem? (i := 1325) (by decide +kernel)) (by decide +kernel), by decide, by decide, by decide +kernel, by decide⟩, zWS_in (List.mem_of_getElem? (i := 1323) (by decide +kernel)) (by decide +kernel), zWS_in (List.mem_of_getElem? (i := 1324) (by decide +kernel)) (by decide +kernel)⟩
theorem lkX9_lastWaiting : zlkV YX9_lastWaiting 0 := ⟨⟨wi_X9, zWS_in (List.mem_of_getElem? (i := 1296) (by decide +kernel)) (by decide +kernel), by decide, by decide, by decide +kernel, by decide⟩, zWS_in (List.mem_of_getElem? (i := 1295) (by decide +kernel)) (by decide +kernel), zWS_in (List.mem_of_getElem? (i := 36) (by decide +kernel)) (by decide +kernel)⟩
theorem lkX9_ones : zlkV YX9_ones 0 := ⟨⟨wi_X9, zWS_in (List.mem_of_getElem? (i := 1317) (by decide +kernel)) (by decide +kernel), by decide, by decide, by decide +kernel, by decide⟩, zWS_in (List.mem_of_getElem? (i := 1315) (by decide +kernel)) (by decide +kernel), zWS_in (List.mem_of_getElem? (i := 1316) (by decide +kernel)) (by decide +kernel)⟩
theorem lkX9_readFrom : zlkV YX9_readFrom 2 := ⟨⟨wi_X9, zWS_in (List.mem_of_getElem? (i := 1255) (by decide +kernel)) (by decide +kernel), by decide, by decide, by decide +kernel, by decide⟩, zWS_in (List.mem_of_getElem? (i := 1253) (by decide +kernel)) (by decide +kernel), zWS_in (List.mem_of_getElem? (i := 1254) (by decide +kernel)) (by decide +kernel)⟩
theorem lkX9_readJoint : zlkV YX9_readJoint 1 := ⟨⟨wi_X9, zWS_in (List.mem_of_getElem? (i := 1300) (by decide +kernel)) (by decide +kernel), by decide, by decide, by decide +kernel, by decide⟩, zWS_in (List.mem_of_getElem? (i := 1299) (by decide +kernel)) (by decide +kernel), zWS_in (List.mem_of_getElem? (i := 37) (by decide +kernel)) (by decide +kernel)⟩
theorem lkX9_readOne : zlkV YX9_readOne 2 := ⟨⟨wi_X9, zWS_in (List.mem_of_getElem? (i := 1262) (by decide +kernel)) (by decide +kernel), by decide, by decide, by decide +kernel, by decide⟩, zWS_in (List.mem_of_getElem? (i := 1261) (by decide +kernel)) (by decide +kernel), zWS_in (List.mem_of_getElem? (i := 31) (by decide +kernel)) (by decide +kernel)⟩
theorem lkX9_readPlain : zlkV YX9_readPlain 3 := ⟨⟨wi_X9, zWS_in (List.mem_of_getElem? (i := 1277) (by decide +kernel)) (by decide +kernel), by decide, by decide, by decide +kernel, by decide⟩, zWS_in (List.mem_of_getElem? (i := 1276) (by decide +kernel)) (by decide +kernel), zWS_in (List.mem_of_getElem? (i := 33) (by decide +kernel)) (by decide +kernel)⟩
theorem lkX9_settleBracket : zlkV YX9_settleBracket 0 := ⟨⟨wi_X9, zWS_in (List.mem_of_getElem? (i := 1308) (by decide +kernel)) (by decide +kernel), by decide, by decide, by decide +kernel, by decide⟩, zWS_in (List.mem_of_getElem? (i := 1307) (by decide +kernel)) (by decide +kernel), zWS_in (List.mem_of_getElem? (i := 39) (by decide +kernel)) (by decide +kernel)⟩
theorem lkX9_settleWaiting : zlkV YX9_settleWaiting 1 := ⟨⟨wi_X9, zWS_in (List.mem_of_getElem? (i := 1304) (by decide +kernel)) (by decide +kernel), by decide, by decide, by decide +kernel, by decide⟩, zWS_in (List.mem_of_getElem? (i := 1303) (by decide +kernel)) (by decide +kernel), zWS_in (List.mem_of_getElem? (i := 38) (by decide +kernel)) (by decide +kernel)⟩
theorem lkX9_whoFits : zlkV YX9_whoFits 2 := ⟨⟨wi_X9, zWS_in (List.mem_of_getElem? (i := 1329) (by decide +kernel)) (by decide +kernel), by decide, by decide, by decide +kernel, by decide⟩, zWS_in (List.mem_of_getElem? (i := 1327) (by decide +kernel)) (by decide +kernel), zWS_in (List.mem_of_getElem? (i := 1328) (by decide +kernel)) (by decide +kernel)⟩
theorem lkX9_whoFitsPlain : zlkV YX9_whoFitsPlain 3 := ⟨⟨wi_X9, zWS_in (List.mem_of_getElem? (i := 1334) (by decide +kernel)) (by decide +kernel), by decide, by decide, by decide +kernel, by decide⟩, zWS_in (List.mem_of_getElem? (i := 1333) (by decide +kernel)) (by decide +kernel), zWS_in (List.mem_of_getElem? (i := 40) (by decide +kernel)) (by decide +kernel)⟩
theorem mlX11_114 : Cond.methodLink "ProperFollow" 114 ⟨"ProperFollow$Tape", "hasRoom", "(I)Z"⟩ ∈ zWS := zWS_in (List.mem_of_getElem? (i := 555) (by decide +kernel)) (by decide +kernel)
theorem mlX11_118 : Cond.methodLink "ProperFollow" 118 ⟨"ProperFollow$Tape", "addNumber", "(I)V"⟩ ∈ zWS := zWS_in (List.mem_of_getElem? (i := 559) (by decide +kernel)) (by decide +kernel)
theorem mlX11_122 : Cond.methodLink "ProperFollow" 122 ⟨"ProperFollow$Tape", "length", "()I"⟩ ∈ zWS := zWS_in (List.mem_of_getElem? (i := 563) (by decide +kernel)) (by decide +kernel)
theorem mlX11_126 : Cond.methodLink "ProperFollow" 126 ⟨"ProperFollow$Tape", "shorten", "(I)Z"⟩ ∈ zWS := zWS_in (List.mem_of_getElem? (i := 571) (by decide +kernel)) (by decide +kernel)
theorem mlX11_129 : Cond.methodLink "ProperFollow" 129 ⟨"ProperFollow$Reader", "start", "(I)V"⟩ ∈ zWS := zWS_in (List.mem_of_getElem? (i := 579) (by decide +kernel)) (by decide +kernel)
theorem mlX11_132 : Cond.methodLink "ProperFollow" 132 ⟨"ProperFollow$Plan", "readFrom", "(LProperFollow$Reader;LProperFollow$Day;)I"⟩ ∈ zWS := zWS_in (List.mem_of_getElem? (i := 605) (by decide +kernel)) (by decide +kernel)
theorem mlX11_136 : Cond.methodLink "ProperFollow" 136 ⟨"ProperFollow$Reader", "faultKind", "()I"⟩ ∈ zWS := zWS_in (List.mem_of_getElem? (i := 766) (by decide +kernel)) (by decide +kernel)
theorem mlX11_141 : Cond.methodLink "ProperFollow" 141 ⟨"ProperFollow$Tape", "clear", "()V"⟩ ∈ zWS := zWS_in (List.mem_of_getElem? (i := 770) (by decide +kernel)) (by decide +kernel)
theorem mlX11_144 : Cond.methodLink "ProperFollow" 144 ⟨"ProperFollow$Reader", "place", "()I"⟩ ∈ zWS := zWS_in (List.mem_of_getElem? (i := 774) (by decide +kernel)) (by decide +kernel)
theorem mlX11_147 : Cond.methodLink "ProperFollow" 147 ⟨"ProperFollow$Plan", "copyFrom", "(LProperFollow$Plan;)V"⟩ ∈ zWS := zWS_in (List.mem_of_getElem? (i := 778) (by decide +kernel)) (by decide +kernel)
theorem mlX11_151 : Cond.methodLink "ProperFollow" 151 ⟨"ProperFollow$Day", "copyFrom", "(LProperFollow$Day;)V"⟩ ∈ zWS := zWS_in (List.mem_of_getElem? (i := 785) (by decide +kernel)) (by decide +kernel)
theorem mlX11_154 : Cond.methodLink "ProperFollow" 154 ⟨"ProperFollow$Sentence", "clear", "()V"⟩ ∈ zWS := zWS_in (List.mem_of_getElem? (i := 790) (by decide +kernel)) (by decide +kernel)
theorem mlX11_155 : Cond.methodLink "ProperFollow" 155 ⟨"ProperFollow$History", "clear", "()V"⟩ ∈ zWS := zWS_in (List.mem_of_getElem? (i := 794) (by decide +kernel)) (by decide +kernel)
theorem mlX11_156 : Cond.methodLink "ProperFollow" 156 ⟨"ProperFollow$Plan", "hasPerson", "(I)Z"⟩ ∈ zWS := zWS_in (List.mem_of_getElem? (i := 806) (by decide +kernel)) (by decide +kernel)
theorem mlX11_166 : Cond.methodLink "ProperFollow" 166 ⟨"ProperFollow$Day", "whereIs", "(I)I"⟩ ∈ zWS := zWS_in (List.mem_of_getElem? (i := 994) (by decide +kernel)) (by decide +kernel)
theorem mlX11_182 : Cond.methodLink "ProperFollow" 182 ⟨"ProperFollow$Day", "followersOf", "(I)I"⟩ ∈ zWS := zWS_in (List.mem_of_getElem? (i := 1191) (by decide +kernel)) (by decide +kernel)
theorem mlX11_188 : Cond.methodLink "ProperFollow" 188 ⟨"ProperFollow$Day", "wasAt", "(II)I"⟩ ∈ zWS := zWS_in (List.mem_of_getElem? (i := 810) (by decide +kernel)) (by decide +kernel)
theorem mlX11_192 : Cond.methodLink "ProperFollow" 192 ⟨"ProperFollow$Plan", "hasCorner", "(I)Z"⟩ ∈ zWS := zWS_in (List.mem_of_getElem? (i := 815) (by decide +kernel)) (by decide +kernel)
theorem mlX11_195 : Cond.methodLink "ProperFollow" 195 ⟨"ProperFollow$Plan", "besideOf", "(I)I"⟩ ∈ zWS := zWS_in (List.mem_of_getElem? (i := 816) (by decide +kernel)) (by decide +kernel)
theorem mlX11_198 : Cond.methodLink "ProperFollow" 198 ⟨"ProperFollow$Day", "whoWasAt", "(II)I"⟩ ∈ zWS := zWS_in (List.mem_of_getElem? (i := 817) (by decide +kernel)) (by decide +kernel)
theorem mlX11_201 : Cond.methodLink "ProperFollow" 201 ⟨"ProperFollow$Day", "bunsAt", "(I)I"⟩ ∈ zWS := zWS_in (List.mem_of_getElem? (i := 821) (by decide +kernel)) (by decide +kernel)
theorem mlX11_204 : Cond.methodLink "ProperFollow" 204 ⟨"ProperFollow$Day", "printsAt", "(I)I"⟩ ∈ zWS := zWS_in (List.mem_of_getElem? (i := 828) (by decide +kernel)) (by decide +kernel)
theorem mlX11_207 : Cond.methodLink "ProperFollow" 207 ⟨"ProperFollow$Day", "minuteNow", "()I"⟩ ∈ zWS := zWS_in (List.mem_of_getElem? (i := 836) (by decide +kernel)) (by decide +kernel)
theorem mlX11_210 : Cond.methodLink "ProperFollow" 210 ⟨"ProperFollow$Day", "whoFollows", "()I"⟩ ∈ zWS := zWS_in (List.mem_of_getElem? (i := 840) (by decide +kernel)) (by decide +kernel)
theorem mlX11_213 : Cond.methodLink "ProperFollow" 213 ⟨"ProperFollow$Day", "whoHasWay", "()I"⟩ ∈ zWS := zWS_in (List.mem_of_getElem? (i := 844) (by decide +kernel)) (by decide +kernel)
theorem mlX11_216 : Cond.methodLink "ProperFollow" 216 ⟨"ProperFollow$Day", "whoIsRinged", "()I"⟩ ∈ zWS := zWS_in (List.mem_of_getElem? (i := 848) (by decide +kernel)) (by decide +kernel)
theorem mlX11_219 : Cond.methodLink "ProperFollow" 219 ⟨"ProperFollow$Day", "firstOfRings", "()I"⟩ ∈ zWS := zWS_in (List.mem_of_getElem? (i := 856) (by decide +kernel)) (by decide +kernel)
theorem mlX11_222 : Cond.methodLink "ProperFollow" 222 ⟨"java/lang/Integer", "bitCount", "(I)I"⟩ ∈ zWS := zWS_in (List.mem_of_getElem? (i := 863) (by decide +kernel)) (by decide +kernel)
theorem mlX11_227 : Cond.methodLink "ProperFollow" 227 ⟨"ProperFollow$Day", "allPrints", "()I"⟩ ∈ zWS := zWS_in (List.mem_of_getElem? (i := 869) (by decide +kernel)) (by decide +kernel)
theorem mlX11_230 : Cond.methodLink "ProperFollow" 230 ⟨"ProperFollow$Day", "bunsFound", "()I"⟩ ∈ zWS := zWS_in (List.mem_of_getElem? (i := 873) (by decide +kernel)) (by decide +kernel)
theorem mlX11_258 : Cond.methodLink "ProperFollow" 258 ⟨"ProperFollow$Day", "passMinutes", "(LProperFollow$Plan;I)V"⟩ ∈ zWS := zWS_in (List.mem_of_getElem? (i := 934) (by decide +kernel)) (by decide +kernel)
theorem mlX11_269 : Cond.methodLink "ProperFollow" 269 ⟨"ProperFollow$Day", "ringOf", "(I)I"⟩ ∈ zWS := zWS_in (List.mem_of_getElem? (i := 981) (by decide +kernel)) (by decide +kernel)
theorem mlX11_272 : Cond.methodLink "ProperFollow" 272 ⟨"ProperFollow", "staysUnseen", "(III)Z"⟩ ∈ zWS := zWS_in (List.mem_of_getElem? (i := 999) (by decide +kernel)) (by decide +kernel)
theorem mlX11_276 : Cond.methodLink "ProperFollow" 276 ⟨"ProperFollow", "whoFitsTape", "()I"⟩ ∈ zWS := zWS_in (List.mem_of_getElem? (i := 1009) (by decide +kernel)) (by decide +kernel)
theorem mlX11_279 : Cond.methodLink "ProperFollow" 279 ⟨"ProperFollow", "bestQuestion", "(I)I"⟩ ∈ zWS := zWS_in (List.mem_of_getElem? (i := 1018) (by decide +kernel)) (by decide +kernel)
theorem mlX11_282 : Cond.methodLink "ProperFollow" 282 ⟨"ProperFollow$Plan", "farFrom", "(II)I"⟩ ∈ zWS := zWS_in (List.mem_of_getElem? (i := 1031) (by decide +kernel)) (by decide +kernel)
theorem mlX11_285 : Cond.methodLink "ProperFollow" 285 ⟨"ProperFollow$Plan", "stepTowards", "(II)I"⟩ ∈ zWS := zWS_in (List.mem_of_getElem? (i := 1032) (by decide +kernel)) (by decide +kernel)
theorem mlX11_288 : Cond.methodLink "ProperFollow" 288 ⟨"ProperFollow$Plan", "areBeside", "(II)Z"⟩ ∈ zWS := zWS_in (List.mem_of_getElem? (i := 1004) (by decide +kernel)) (by decide +kernel)
theorem mlX11_292 : Cond.methodLink "ProperFollow" 292 ⟨"ProperFollow$Plan", "leastBar", "(II)I"⟩ ∈ zWS := zWS_in (List.mem_of_getElem? (i := 1041) (by decide +kernel)) (by decide +kernel)
theorem mlX11_302 : Cond.methodLink "ProperFollow" 302 ⟨"ProperFollow$Pairing", "farInAll", "()I"⟩ ∈ zWS := zWS_in (List.mem_of_getElem? (i := 1092) (by decide +kernel)) (by decide +kernel)
theorem mlX11_305 : Cond.methodLink "ProperFollow" 305 ⟨"ProperFollow$Pairing", "chosenFor", "(I)I"⟩ ∈ zWS := zWS_in (List.mem_of_getElem? (i := 1100) (by decide +kernel)) (by decide +kernel)
theorem mlX11_308 : Cond.methodLink "ProperFollow" 308 ⟨"ProperFollow$Plan", "persons", "()I"⟩ ∈ zWS := zWS_in (List.mem_of_getElem? (i := 1013) (by decide +kernel)) (by decide +kernel)
theorem mlX11_343 : Cond.methodLink "ProperFollow" 343 ⟨"ProperFollow$Line", "byteOf", "(I)I"⟩ ∈ zWS := zWS_in (List.mem_of_getElem? (i := 1154) (by decide +kernel)) (by decide +kernel)
theorem mlX11_346 : Cond.methodLink "ProperFollow" 346 ⟨"ProperFollow$Draws", "passMinutes", "(LProperFollow$Plan;LProperFollow$Day;II)I"⟩ ∈ zWS := zWS_in (List.mem_of_getElem? (i := 1162) (by decide +kernel)) (by decide +kernel)
theorem mlX11_359 : Cond.methodLink "ProperFollow" 359 ⟨"ProperFollow$Book", "toldOf", "(I)I"⟩ ∈ zWS := zWS_in (List.mem_of_getElem? (i := 1244) (by decide +kernel)) (by decide +kernel)
theorem mlX11_362 : Cond.methodLink "ProperFollow" 362 ⟨"ProperFollow$Sentence", "readFrom", "(LProperFollow$Reader;LProperFollow$Plan;)V"⟩ ∈ zWS := zWS_in (List.mem_of_getElem? (i := 1252) (by decide +kernel)) (by decide +kernel)
theorem mlX11_363 : Cond.methodLink "ProperFollow" 363 ⟨"ProperFollow$Sentence", "copyFrom", "(LProperFollow$Sentence;)V"⟩ ∈ zWS := zWS_in (List.mem_of_getElem? (i := 1309) (by decide +kernel)) (by decide +kernel)
theorem mlX11_366 : Cond.methodLink "ProperFollow" 366 ⟨"ProperFollow$Sentence", "ones", "()I"⟩ ∈ zWS := zWS_in (List.mem_of_getElem? (i := 1314) (by decide +kernel)) (by decide +kernel)
theorem mlX11_369 : Cond.methodLink "ProperFollow" 369 ⟨"ProperFollow$Sentence", "isThere", "()Z"⟩ ∈ zWS := zWS_in (List.mem_of_getElem? (i := 1322) (by decide +kernel)) (by decide +kernel)
theorem mlX11_373 : Cond.methodLink "ProperFollow" 373 ⟨"ProperFollow$Sentence", "whoFits", "(LProperFollow$Plan;LProperFollow$Day;)I"⟩ ∈ zWS := zWS_in (List.mem_of_getElem? (i := 1326) (by decide +kernel)) (by decide +kernel)
theorem mlX11_376 : Cond.methodLink "ProperFollow" 376 ⟨"ProperFollow", "hasBit", "(II)Z"⟩ ∈ zWS := zWS_in (List.mem_of_getElem? (i := 1351) (by decide +kernel)) (by decide +kernel)
theorem mlX11_393 : Cond.methodLink "ProperFollow" 393 ⟨"ProperFollow$Plan", "corners", "()I"⟩ ∈ zWS := zWS_in (List.mem_of_getElem? (i := 1383) (by decide +kernel)) (by decide +kernel)
theorem mlX11_396 : Cond.methodLink "ProperFollow" 396 ⟨"ProperFollow$Plan", "streets", "()I"⟩ ∈ zWS := zWS_in (List.mem_of_getElem? (i := 1384) (by decide +kernel)) (by decide +kernel)
theorem mlX11_402 : Cond.methodLink "ProperFollow" 402 ⟨"ProperFollow$Day", "followsInstead", "(III)V"⟩ ∈ zWS := zWS_in (List.mem_of_getElem? (i := 1003) (by decide +kernel)) (by decide +kernel)
theorem mlX11_406 : Cond.methodLink "ProperFollow" 406 ⟨"ProperFollow$Tape", "byteOf", "(I)I"⟩ ∈ zWS := zWS_in (List.mem_of_getElem? (i := 1017) (by decide +kernel)) (by decide +kernel)
theorem mlX11_407 : Cond.methodLink "ProperFollow" 407 Lib.Math.max.name ∈ zWS := zWS_in (List.mem_of_getElem? (i := 1022) (by decide +kernel)) (by decide +kernel)
theorem mlX0_44 : Cond.methodLink "ProperFollow$Book" 44 ⟨"ProperFollow$Reader", "isGood", "()Z"⟩ ∈ zWS := zWS_in (List.mem_of_getElem? (i := 1200) (by decide +kernel)) (by decide +kernel)
theorem mlX0_50 : Cond.methodLink "ProperFollow$Book" 50 ⟨"ProperFollow$Reader", "atEnd", "()Z"⟩ ∈ zWS := zWS_in (List.mem_of_getElem? (i := 1201) (by decide +kernel)) (by decide +kernel)
theorem mlX0_53 : Cond.methodLink "ProperFollow$Book" 53 ⟨"ProperFollow$Book", "readLine", "(LProperFollow$Reader;LProperFollow$Plan;)V"⟩ ∈ zWS := zWS_in (List.mem_of_getElem? (i := 1202) (by decide +kernel)) (by decide +kernel)
theorem mlX0_57 : Cond.methodLink "ProperFollow$Book" 57 ⟨"ProperFollow$Reader", "takeSign", "(I)V"⟩ ∈ zWS := zWS_in (List.mem_of_getElem? (i := 1216) (by decide +kernel)) (by decide +kernel)
theorem mlX0_61 : Cond.methodLink "ProperFollow$Book" 61 ⟨"ProperFollow$Reader", "toldWord", "()I"⟩ ∈ zWS := zWS_in (List.mem_of_getElem? (i := 1206) (by decide +kernel)) (by decide +kernel)
theorem mlX0_65 : Cond.methodLink "ProperFollow$Book" 65 ⟨"ProperFollow$Reader", "needPerson", "(LProperFollow$Plan;)I"⟩ ∈ zWS := zWS_in (List.mem_of_getElem? (i := 1207) (by decide +kernel)) (by decide +kernel)
theorem mlX0_69 : Cond.methodLink "ProperFollow$Book" 69 ⟨"ProperFollow$Reader", "fail", "(I)V"⟩ ∈ zWS := zWS_in (List.mem_of_getElem? (i := 1208) (by decide +kernel)) (by decide +kernel)
theorem mlX0_72 : Cond.methodLink "ProperFollow$Book" 72 ⟨"ProperFollow$Reader", "goOn", "()V"⟩ ∈ zWS := zWS_in (List.mem_of_getElem? (i := 1209) (by decide +kernel)) (by decide +kernel)
theorem mlX0_75 : Cond.methodLink "ProperFollow$Book" 75 ⟨"ProperFollow$Book", "readAct", "(LProperFollow$Reader;LProperFollow$Plan;II)V"⟩ ∈ zWS := zWS_in (List.mem_of_getElem? (i := 1210) (by decide +kernel)) (by decide +kernel)
theorem mlX0_79 : Cond.methodLink "ProperFollow$Book" 79 ⟨"ProperFollow$Reader", "takeNumber", "(II)I"⟩ ∈ zWS := zWS_in (List.mem_of_getElem? (i := 1214) (by decide +kernel)) (by decide +kernel)
theorem mlX0_83 : Cond.methodLink "ProperFollow$Book" 83 ⟨"ProperFollow$Reader", "needCorner", "(LProperFollow$Plan;)I"⟩ ∈ zWS := zWS_in (List.mem_of_getElem? (i := 1215) (by decide +kernel)) (by decide +kernel)
theorem mlX0_86 : Cond.methodLink "ProperFollow$Book" 86 ⟨"ProperFollow$Book", "doLine", "(LProperFollow$Plan;LProperFollow$Day;I)I"⟩ ∈ zWS := zWS_in (List.mem_of_getElem? (i := 1221) (by decide +kernel)) (by decide +kernel)
theorem mlX0_90 : Cond.methodLink "ProperFollow$Book" 90 ⟨"ProperFollow$Day", "minuteNow", "()I"⟩ ∈ zWS := zWS_in (List.mem_of_getElem? (i := 1234) (by decide +kernel)) (by decide +kernel)
theorem mlX0_95 : Cond.methodLink "ProperFollow$Book" 95 ⟨"ProperFollow$Day", "allPrints", "()I"⟩ ∈ zWS := zWS_in (List.mem_of_getElem? (i := 1235) (by decide +kernel)) (by decide +kernel)
theorem mlX0_98 : Cond.methodLink "ProperFollow$Book" 98 ⟨"ProperFollow$Day", "goesTo", "(LProperFollow$Plan;II)I"⟩ ∈ zWS := zWS_in (List.mem_of_getElem? (i := 1225) (by decide +kernel)) (by decide +kernel)
theorem mlX0_102 : Cond.methodLink "ProperFollow$Book" 102 ⟨"ProperFollow$Day", "dropsBun", "(I)I"⟩ ∈ zWS := zWS_in (List.mem_of_getElem? (i := 1226) (by decide +kernel)) (by decide +kernel)
theorem mlX0_106 : Cond.methodLink "ProperFollow$Book" 106 ⟨"ProperFollow$Book", "shifted", "(II)I"⟩ ∈ zWS := zWS_in (List.mem_of_getElem? (i := 1227) (by decide +kernel)) (by decide +kernel)
theorem mlX0_109 : Cond.methodLink "ProperFollow$Book" 109 ⟨"ProperFollow$Day", "leavesOff", "(I)I"⟩ ∈ zWS := zWS_in (List.mem_of_getElem? (i := 1230) (by decide +kernel)) (by decide +kernel)
theorem mlX0_112 : Cond.methodLink "ProperFollow$Book" 112 ⟨"ProperFollow$Day", "takesOn", "(III)I"⟩ ∈ zWS := zWS_in (List.mem_of_getElem? (i := 1231) (by decide +kernel)) (by decide +kernel)
theorem mlX0_116 : Cond.methodLink "ProperFollow$Book" 116 ⟨"ProperFollow$Day", "minutesLeft", "()I"⟩ ∈ zWS := zWS_in (List.mem_of_getElem? (i := 1232) (by decide +kernel)) (by decide +kernel)
theorem mlX0_119 : Cond.methodLink "ProperFollow$Book" 119 ⟨"ProperFollow$Day", "passMinutes", "(LProperFollow$Plan;I)V"⟩ ∈ zWS := zWS_in (List.mem_of_getElem? (i := 1233) (by decide +kernel)) (by decide +kernel)
theorem mlX1_39 : Cond.methodLink "ProperFollow$Day" 39 ⟨"java/util/Arrays", "fill", "([II)V"⟩ ∈ zWS := zWS_in (List.mem_of_getElem? (i := 288) (by decide +kernel)) (by decide +kernel)
theorem mlX1_52 : zcp "ProperFollow$Day" 52 := zWS_in (List.mem_of_getElem? (i := 789) (by decide +kernel)) (by decide +kernel)
theorem mlX1_58 : Cond.methodLink "ProperFollow$Day" 58 ⟨"ProperFollow$Day", "mayBe", "(I)Z"⟩ ∈ zWS := zWS_in (List.mem_of_getElem? (i := 703) (by decide +kernel)) (by decide +kernel)
theorem mlX1_62 : Cond.methodLink "ProperFollow$Day" 62 ⟨"ProperFollow$Day", "wasAt", "(II)I"⟩ ∈ zWS := zWS_in (List.mem_of_getElem? (i := 733) (by decide +kernel)) (by decide +kernel)
theorem mlX1_66 : Cond.methodLink "ProperFollow$Day" 66 ⟨"ProperFollow$Day", "mayBeCorner", "(I)Z"⟩ ∈ zWS := zWS_in (List.mem_of_getElem? (i := 825) (by decide +kernel)) (by decide +kernel)
theorem mlX1_69 : Cond.methodLink "ProperFollow$Day" 69 ⟨"ProperFollow$Day", "followedBy", "(I)I"⟩ ∈ zWS := zWS_in (List.mem_of_getElem? (i := 727) (by decide +kernel)) (by decide +kernel)
theorem mlX1_73 : Cond.methodLink "ProperFollow$Day" 73 ⟨"ProperFollow$Day", "wayLeft", "(I)I"⟩ ∈ zWS := zWS_in (List.mem_of_getElem? (i := 728) (by decide +kernel)) (by decide +kernel)
theorem mlX1_76 : Cond.methodLink "ProperFollow$Day" 76 ⟨"ProperFollow$Day", "ringOf", "(I)I"⟩ ∈ zWS := zWS_in (List.mem_of_getElem? (i := 852) (by decide +kernel)) (by decide +kernel)
theorem mlX1_79 : Cond.methodLink "ProperFollow$Day" 79 ⟨"java/lang/Integer", "lowestOneBit", "(I)I"⟩ ∈ zWS := zWS_in (List.mem_of_getElem? (i := 860) (by decide +kernel)) (by decide +kernel)
theorem mlX1_88 : Cond.methodLink "ProperFollow$Day" 88 ⟨"ProperFollow$Day", "whereIs", "(I)I"⟩ ∈ zWS := zWS_in (List.mem_of_getElem? (i := 729) (by decide +kernel)) (by decide +kernel)
theorem mlX1_91 : Cond.methodLink "ProperFollow$Day" 91 ⟨"ProperFollow$Plan", "areBeside", "(II)Z"⟩ ∈ zWS := zWS_in (List.mem_of_getElem? (i := 737) (by decide +kernel)) (by decide +kernel)
theorem mlX1_96 : Cond.methodLink "ProperFollow$Day" 96 ⟨"ProperFollow$Day", "bunsOf", "(I)I"⟩ ∈ zWS := zWS_in (List.mem_of_getElem? (i := 908) (by decide +kernel)) (by decide +kernel)
theorem mlX1_99 : Cond.methodLink "ProperFollow$Day" 99 ⟨"ProperFollow$Day", "followsInstead", "(III)V"⟩ ∈ zWS := zWS_in (List.mem_of_getElem? (i := 746) (by decide +kernel)) (by decide +kernel)
theorem mlX1_103 : Cond.methodLink "ProperFollow$Day" 103 ⟨"ProperFollow$Day", "nextPlace", "(LProperFollow$Plan;I)I"⟩ ∈ zWS := zWS_in (List.mem_of_getElem? (i := 938) (by decide +kernel)) (by decide +kernel)
theorem mlX1_107 : Cond.methodLink "ProperFollow$Day" 107 ⟨"ProperFollow$Day", "shortenWay", "(I)V"⟩ ∈ zWS := zWS_in (List.mem_of_getElem? (i := 950) (by decide +kernel)) (by decide +kernel)
theorem mlX1_111 : Cond.methodLink "ProperFollow$Day" 111 ⟨"ProperFollow$Day", "move", "(II)V"⟩ ∈ zWS := zWS_in (List.mem_of_getElem? (i := 954) (by decide +kernel)) (by decide +kernel)
theorem mlX1_115 : Cond.methodLink "ProperFollow$Day" 115 ⟨"ProperFollow$Day", "findBun", "(I)V"⟩ ∈ zWS := zWS_in (List.mem_of_getElem? (i := 959) (by decide +kernel)) (by decide +kernel)
theorem mlX1_118 : Cond.methodLink "ProperFollow$Day" 118 ⟨"ProperFollow$Plan", "stepTowards", "(II)I"⟩ ∈ zWS := zWS_in (List.mem_of_getElem? (i := 942) (by decide +kernel)) (by decide +kernel)
theorem mlX1_121 : Cond.methodLink "ProperFollow$Day" 121 Lib.Math.min.name ∈ zWS := zWS_in (List.mem_of_getElem? (i := 958) (by decide +kernel)) (by decide +kernel)
theorem mlX1_126 : Cond.methodLink "ProperFollow$Day" 126 ⟨"ProperFollow$Day", "bunsAt", "(I)I"⟩ ∈ zWS := zWS_in (List.mem_of_getElem? (i := 963) (by decide +kernel)) (by decide +kernel)
theorem mlX2_16 : Cond.methodLink "ProperFollow$Draws" 16 ⟨"ProperFollow$Day", "minutesLeft", "()I"⟩ ∈ zWS := zWS_in (List.mem_of_getElem? (i := 1166) (by decide +kernel)) (by decide +kernel)
theorem mlX2_22 : Cond.methodLink "ProperFollow$Draws" 22 Lib.Math.min.name ∈ zWS := zWS_in (List.mem_of_getElem? (i := 1167) (by decide +kernel)) (by decide +kernel)
theorem mlX2_28 : Cond.methodLink "ProperFollow$Draws" 28 ⟨"ProperFollow$Plan", "persons", "()I"⟩ ∈ zWS := zWS_in (List.mem_of_getElem? (i := 1168) (by decide +kernel)) (by decide +kernel)
theorem mlX2_33 : Cond.methodLink "ProperFollow$Draws" 33 ⟨"ProperFollow$Draws", "act", "(LProperFollow$Plan;LProperFollow$Day;I)V"⟩ ∈ zWS := zWS_in (List.mem_of_getElem? (i := 1169) (by decide +kernel)) (by decide +kernel)
theorem mlX2_37 : Cond.methodLink "ProperFollow$Draws" 37 ⟨"ProperFollow$Day", "passMinutes", "(LProperFollow$Plan;I)V"⟩ ∈ zWS := zWS_in (List.mem_of_getElem? (i := 1186) (by decide +kernel)) (by decide +kernel)
theorem mlX2_41 : Cond.methodLink "ProperFollow$Draws" 41 ⟨"ProperFollow$Draws", "draw", "(I)I"⟩ ∈ zWS := zWS_in (List.mem_of_getElem? (i := 1173) (by decide +kernel)) (by decide +kernel)
theorem mlX2_45 : Cond.methodLink "ProperFollow$Draws" 45 ⟨"ProperFollow$Day", "takesOn", "(III)I"⟩ ∈ zWS := zWS_in (List.mem_of_getElem? (i := 1178) (by decide +kernel)) (by decide +kernel)
theorem mlX2_49 : Cond.methodLink "ProperFollow$Draws" 49 ⟨"ProperFollow$Day", "leavesOff", "(I)I"⟩ ∈ zWS := zWS_in (List.mem_of_getElem? (i := 1179) (by decide +kernel)) (by decide +kernel)
theorem mlX2_52 : Cond.methodLink "ProperFollow$Draws" 52 ⟨"ProperFollow$Plan", "corners", "()I"⟩ ∈ zWS := zWS_in (List.mem_of_getElem? (i := 1180) (by decide +kernel)) (by decide +kernel)
theorem mlX2_55 : Cond.methodLink "ProperFollow$Draws" 55 ⟨"ProperFollow$Day", "goesTo", "(LProperFollow$Plan;II)I"⟩ ∈ zWS := zWS_in (List.mem_of_getElem? (i := 1184) (by decide +kernel)) (by decide +kernel)
theorem mlX2_59 : Cond.methodLink "ProperFollow$Draws" 59 ⟨"ProperFollow$Day", "dropsBun", "(I)I"⟩ ∈ zWS := zWS_in (List.mem_of_getElem? (i := 1185) (by decide +kernel)) (by decide +kernel)
theorem mlX5_29 : Cond.methodLink "ProperFollow$Line" 29 ⟨"ProperFollow$Line", "addByte", "(I)V"⟩ ∈ zWS := zWS_in (List.mem_of_getElem? (i := 1122) (by decide +kernel)) (by decide +kernel)
theorem mlX6_69 : zcp "ProperFollow$Pairing" 69 := zWS_in (List.mem_of_getElem? (i := 1075) (by decide +kernel)) (by decide +kernel)
theorem mlX7_35 : Cond.methodLink "ProperFollow$Plan" 35 ⟨"ProperFollow$Plan", "hasCorner", "(I)Z"⟩ ∈ zWS := zWS_in (List.mem_of_getElem? (i := 680) (by decide +kernel)) (by decide +kernel)
theorem mlX7_39 : Cond.methodLink "ProperFollow$Plan" 39 ⟨"ProperFollow$Plan", "hasPerson", "(I)Z"⟩ ∈ zWS := zWS_in (List.mem_of_getElem? (i := 1116) (by decide +kernel)) (by decide +kernel)
theorem mlX7_42 : Cond.methodLink "ProperFollow$Plan" 42 ⟨"ProperFollow$Plan", "besideOf", "(I)I"⟩ ∈ zWS := zWS_in (List.mem_of_getElem? (i := 684) (by decide +kernel)) (by decide +kernel)
theorem mlX7_50 : Cond.methodLink "ProperFollow$Plan" 50 ⟨"ProperFollow$Plan", "farFrom", "(II)I"⟩ ∈ zWS := zWS_in (List.mem_of_getElem? (i := 946) (by decide +kernel)) (by decide +kernel)
theorem mlX7_54 : Cond.methodLink "ProperFollow$Plan" 54 ⟨"java/lang/Integer", "bitCount", "(I)I"⟩ ∈ zWS := zWS_in (List.mem_of_getElem? (i := 1045) (by decide +kernel)) (by decide +kernel)
theorem mlX7_59 : Cond.methodLink "ProperFollow$Plan" 59 ⟨"ProperFollow$Plan", "reached", "(II)I"⟩ ∈ zWS := zWS_in (List.mem_of_getElem? (i := 1046) (by decide +kernel)) (by decide +kernel)
theorem mlX7_62 : Cond.methodLink "ProperFollow$Plan" 62 ⟨"ProperFollow$Plan", "besideAny", "(I)I"⟩ ∈ zWS := zWS_in (List.mem_of_getElem? (i := 762) (by decide +kernel)) (by decide +kernel)
theorem mlX7_65 : zcp "ProperFollow$Plan" 65 := zWS_in (List.mem_of_getElem? (i := 782) (by decide +kernel)) (by decide +kernel)
theorem mlX7_71 : Cond.methodLink "ProperFollow$Plan" 71 ⟨"java/util/Arrays", "fill", "([II)V"⟩ ∈ zWS := zWS_in (List.mem_of_getElem? (i := 613) (by decide +kernel)) (by decide +kernel)
theorem mlX7_77 : Cond.methodLink "ProperFollow$Plan" 77 ⟨"ProperFollow$Plan", "clear", "()V"⟩ ∈ zWS := zWS_in (List.mem_of_getElem? (i := 609) (by decide +kernel)) (by decide +kernel)
theorem mlX7_80 : Cond.methodLink "ProperFollow$Plan" 80 ⟨"ProperFollow$Day", "clear", "()V"⟩ ∈ zWS := zWS_in (List.mem_of_getElem? (i := 614) (by decide +kernel)) (by decide +kernel)
theorem mlX7_83 : Cond.methodLink "ProperFollow$Plan" 83 ⟨"ProperFollow$Reader", "isGood", "()Z"⟩ ∈ zWS := zWS_in (List.mem_of_getElem? (i := 618) (by decide +kernel)) (by decide +kernel)
theorem mlX7_89 : Cond.methodLink "ProperFollow$Plan" 89 ⟨"ProperFollow$Reader", "atEnd", "()Z"⟩ ∈ zWS := zWS_in (List.mem_of_getElem? (i := 622) (by decide +kernel)) (by decide +kernel)
theorem mlX7_92 : Cond.methodLink "ProperFollow$Plan" 92 ⟨"ProperFollow$Plan", "readLine", "(LProperFollow$Reader;LProperFollow$Day;)V"⟩ ∈ zWS := zWS_in (List.mem_of_getElem? (i := 626) (by decide +kernel)) (by decide +kernel)
theorem mlX7_96 : Cond.methodLink "ProperFollow$Plan" 96 ⟨"ProperFollow$Reader", "takeSign", "(I)V"⟩ ∈ zWS := zWS_in (List.mem_of_getElem? (i := 750) (by decide +kernel)) (by decide +kernel)
theorem mlX7_100 : Cond.methodLink "ProperFollow$Plan" 100 ⟨"ProperFollow$Plan", "measure", "()V"⟩ ∈ zWS := zWS_in (List.mem_of_getElem? (i := 754) (by decide +kernel)) (by decide +kernel)
theorem mlX7_103 : Cond.methodLink "ProperFollow$Plan" 103 ⟨"ProperFollow$Reader", "toldWord", "()I"⟩ ∈ zWS := zWS_in (List.mem_of_getElem? (i := 630) (by decide +kernel)) (by decide +kernel)
theorem mlX7_107 : Cond.methodLink "ProperFollow$Plan" 107 ⟨"ProperFollow$Plan", "readCorner", "(LProperFollow$Reader;)V"⟩ ∈ zWS := zWS_in (List.mem_of_getElem? (i := 634) (by decide +kernel)) (by decide +kernel)
theorem mlX7_111 : Cond.methodLink "ProperFollow$Plan" 111 ⟨"ProperFollow$Plan", "readStreet", "(LProperFollow$Reader;)V"⟩ ∈ zWS := zWS_in (List.mem_of_getElem? (i := 666) (by decide +kernel)) (by decide +kernel)
theorem mlX7_114 : Cond.methodLink "ProperFollow$Plan" 114 ⟨"ProperFollow$Plan", "readPerson", "(LProperFollow$Reader;LProperFollow$Day;)V"⟩ ∈ zWS := zWS_in (List.mem_of_getElem? (i := 691) (by decide +kernel)) (by decide +kernel)
theorem mlX7_117 : Cond.methodLink "ProperFollow$Plan" 117 ⟨"ProperFollow$Plan", "readNext", "(LProperFollow$Reader;LProperFollow$Day;)V"⟩ ∈ zWS := zWS_in (List.mem_of_getElem? (i := 706) (by decide +kernel)) (by decide +kernel)
theorem mlX7_120 : Cond.methodLink "ProperFollow$Plan" 120 ⟨"ProperFollow$Plan", "readFollows", "(LProperFollow$Reader;LProperFollow$Day;)V"⟩ ∈ zWS := zWS_in (List.mem_of_getElem? (i := 738) (by decide +kernel)) (by decide +kernel)
theorem mlX7_123 : Cond.methodLink "ProperFollow$Plan" 123 ⟨"ProperFollow$Reader", "fail", "(I)V"⟩ ∈ zWS := zWS_in (List.mem_of_getElem? (i := 638) (by decide +kernel)) (by decide +kernel)
theorem mlX7_126 : Cond.methodLink "ProperFollow$Plan" 126 ⟨"ProperFollow$Reader", "goOn", "()V"⟩ ∈ zWS := zWS_in (List.mem_of_getElem? (i := 642) (by decide +kernel)) (by decide +kernel)
theorem mlX7_129 : Cond.methodLink "ProperFollow$Plan" 129 ⟨"ProperFollow$Plan", "needNewName", "(LProperFollow$Reader;)Z"⟩ ∈ zWS := zWS_in (List.mem_of_getElem? (i := 643) (by decide +kernel)) (by decide +kernel)
theorem mlX7_133 : Cond.methodLink "ProperFollow$Plan" 133 ⟨"ProperFollow$Reader", "wordHere", "()J"⟩ ∈ zWS := zWS_in (List.mem_of_getElem? (i := 654) (by decide +kernel)) (by decide +kernel)
theorem mlX7_137 : Cond.methodLink "ProperFollow$Plan" 137 ⟨"ProperFollow$Reader", "needName", "()Z"⟩ ∈ zWS := zWS_in (List.mem_of_getElem? (i := 647) (by decide +kernel)) (by decide +kernel)
theorem mlX7_140 : Cond.methodLink "ProperFollow$Plan" 140 ⟨"ProperFollow$Plan", "cornerNamed", "(J)I"⟩ ∈ zWS := zWS_in (List.mem_of_getElem? (i := 658) (by decide +kernel)) (by decide +kernel)
theorem mlX7_144 : Cond.methodLink "ProperFollow$Plan" 144 ⟨"ProperFollow$Plan", "personNamed", "(J)I"⟩ ∈ zWS := zWS_in (List.mem_of_getElem? (i := 662) (by decide +kernel)) (by decide +kernel)
theorem mlX7_147 : Cond.methodLink "ProperFollow$Plan" 147 ⟨"ProperFollow$Reader", "needCorner", "(LProperFollow$Plan;)I"⟩ ∈ zWS := zWS_in (List.mem_of_getElem? (i := 670) (by decide +kernel)) (by decide +kernel)
theorem mlX7_151 : Cond.methodLink "ProperFollow$Plan" 151 ⟨"ProperFollow$Plan", "areBeside", "(II)Z"⟩ ∈ zWS := zWS_in (List.mem_of_getElem? (i := 676) (by decide +kernel)) (by decide +kernel)
theorem mlX7_154 : Cond.methodLink "ProperFollow$Plan" 154 ⟨"ProperFollow$Reader", "takeNumber", "(II)I"⟩ ∈ zWS := zWS_in (List.mem_of_getElem? (i := 695) (by decide +kernel)) (by decide +kernel)
theorem mlX7_157 : Cond.methodLink "ProperFollow$Plan" 157 ⟨"ProperFollow$Day", "begin", "(III)V"⟩ ∈ zWS := zWS_in (List.mem_of_getElem? (i := 699) (by decide +kernel)) (by decide +kernel)
theorem mlX7_161 : Cond.methodLink "ProperFollow$Plan" 161 ⟨"ProperFollow$Reader", "needPerson", "(LProperFollow$Plan;)I"⟩ ∈ zWS := zWS_in (List.mem_of_getElem? (i := 710) (by decide +kernel)) (by decide +kernel)
theorem mlX7_164 : Cond.methodLink "ProperFollow$Plan" 164 ⟨"ProperFollow$Day", "followedBy", "(I)I"⟩ ∈ zWS := zWS_in (List.mem_of_getElem? (i := 715) (by decide +kernel)) (by decide +kernel)
theorem mlX7_167 : Cond.methodLink "ProperFollow$Plan" 167 ⟨"ProperFollow$Day", "wayLeft", "(I)I"⟩ ∈ zWS := zWS_in (List.mem_of_getElem? (i := 719) (by decide +kernel)) (by decide +kernel)
theorem mlX7_170 : Cond.methodLink "ProperFollow$Plan" 170 ⟨"ProperFollow$Day", "goesTo", "(LProperFollow$Plan;II)I"⟩ ∈ zWS := zWS_in (List.mem_of_getElem? (i := 723) (by decide +kernel)) (by decide +kernel)
theorem mlX7_174 : Cond.methodLink "ProperFollow$Plan" 174 ⟨"ProperFollow$Day", "takesOn", "(III)I"⟩ ∈ zWS := zWS_in (List.mem_of_getElem? (i := 742) (by decide +kernel)) (by decide +kernel)
theorem mlX7_178 : Cond.methodLink "ProperFollow$Plan" 178 ⟨"ProperFollow$Plan", "noteFar", "(III)V"⟩ ∈ zWS := zWS_in (List.mem_of_getElem? (i := 758) (by decide +kernel)) (by decide +kernel)
theorem mlX8_35 : Cond.methodLink "ProperFollow$Reader" 35 ⟨"ProperFollow$Reader", "withLetter", "(JI)J"⟩ ∈ zWS := zWS_in (List.mem_of_getElem? (i := 220) (by decide +kernel)) (by decide +kernel)
theorem mlX8_51 : Cond.methodLink "ProperFollow$Reader" 51 ⟨"ProperFollow$Reader", "goOn", "()V"⟩ ∈ zWS := zWS_in (List.mem_of_getElem? (i := 583) (by decide +kernel)) (by decide +kernel)
theorem mlX8_64 : Cond.methodLink "ProperFollow$Reader" 64 ⟨"ProperFollow$Tape", "length", "()I"⟩ ∈ zWS := zWS_in (List.mem_of_getElem? (i := 587) (by decide +kernel)) (by decide +kernel)
theorem mlX8_67 : Cond.methodLink "ProperFollow$Reader" 67 Lib.Math.min.name ∈ zWS := zWS_in (List.mem_of_getElem? (i := 588) (by decide +kernel)) (by decide +kernel)
theorem mlX8_73 : Cond.methodLink "ProperFollow$Reader" 73 ⟨"ProperFollow$Tape", "byteOf", "(I)I"⟩ ∈ zWS := zWS_in (List.mem_of_getElem? (i := 591) (by decide +kernel)) (by decide +kernel)
theorem mlX8_77 : Cond.methodLink "ProperFollow$Reader" 77 ⟨"ProperFollow$Reader", "isSomeSign", "(I)Z"⟩ ∈ zWS := zWS_in (List.mem_of_getElem? (i := 595) (by decide +kernel)) (by decide +kernel)
theorem mlX8_81 : Cond.methodLink "ProperFollow$Reader" 81 ⟨"ProperFollow$Reader", "readRun", "()V"⟩ ∈ zWS := zWS_in (List.mem_of_getElem? (i := 598) (by decide +kernel)) (by decide +kernel)
theorem mlX8_87 : Cond.methodLink "ProperFollow$Reader" 87 Lib.Math.max.name ∈ zWS := zWS_in (List.mem_of_getElem? (i := 602) (by decide +kernel)) (by decide +kernel)
theorem mlX8_90 : Cond.methodLink "ProperFollow$Reader" 90 ⟨"ProperFollow$Reader", "toldWord", "()I"⟩ ∈ zWS := zWS_in (List.mem_of_getElem? (i := 651) (by decide +kernel)) (by decide +kernel)
theorem mlX8_93 : Cond.methodLink "ProperFollow$Reader" 93 ⟨"ProperFollow$Reader", "fail", "(I)V"⟩ ∈ zWS := zWS_in (List.mem_of_getElem? (i := 652) (by decide +kernel)) (by decide +kernel)
theorem mlX8_97 : Cond.methodLink "ProperFollow$Reader" 97 ⟨"ProperFollow$Reader", "isGood", "()Z"⟩ ∈ zWS := zWS_in (List.mem_of_getElem? (i := 653) (by decide +kernel)) (by decide +kernel)
theorem mlX8_101 : Cond.methodLink "ProperFollow$Reader" 101 ⟨"ProperFollow$Reader", "needName", "()Z"⟩ ∈ zWS := zWS_in (List.mem_of_getElem? (i := 674) (by decide +kernel)) (by decide +kernel)
theorem mlX8_104 : Cond.methodLink "ProperFollow$Reader" 104 ⟨"ProperFollow$Plan", "cornerNamed", "(J)I"⟩ ∈ zWS := zWS_in (List.mem_of_getElem? (i := 675) (by decide +kernel)) (by decide +kernel)
theorem mlX8_110 : Cond.methodLink "ProperFollow$Reader" 110 ⟨"ProperFollow$Plan", "personNamed", "(J)I"⟩ ∈ zWS := zWS_in (List.mem_of_getElem? (i := 714) (by decide +kernel)) (by decide +kernel)
theorem mlX9_44 : zcp "ProperFollow$Sentence" 44 := zWS_in (List.mem_of_getElem? (i := 1313) (by decide +kernel)) (by decide +kernel)
theorem mlX9_50 : Cond.methodLink "ProperFollow$Sentence" 50 ⟨"ProperFollow$Sentence", "clear", "()V"⟩ ∈ zWS := zWS_in (List.mem_of_getElem? (i := 1256) (by decide +kernel)) (by decide +kernel)
theorem mlX9_56 : Cond.methodLink "ProperFollow$Sentence" 56 ⟨"ProperFollow$Reader", "isGood", "()Z"⟩ ∈ zWS := zWS_in (List.mem_of_getElem? (i := 1257) (by decide +kernel)) (by decide +kernel)
theorem mlX9_62 : Cond.methodLink "ProperFollow$Sentence" 62 ⟨"ProperFollow$Reader", "atEnd", "()Z"⟩ ∈ zWS := zWS_in (List.mem_of_getElem? (i := 1258) (by decide +kernel)) (by decide +kernel)
theorem mlX9_65 : Cond.methodLink "ProperFollow$Sentence" 65 ⟨"ProperFollow$Sentence", "readOne", "(LProperFollow$Reader;LProperFollow$Plan;)V"⟩ ∈ zWS := zWS_in (List.mem_of_getElem? (i := 1259) (by decide +kernel)) (by decide +kernel)
theorem mlX9_69 : Cond.methodLink "ProperFollow$Sentence" 69 ⟨"ProperFollow$Sentence", "readJoint", "(LProperFollow$Reader;)V"⟩ ∈ zWS := zWS_in (List.mem_of_getElem? (i := 1297) (by decide +kernel)) (by decide +kernel)
theorem mlX9_73 : Cond.methodLink "ProperFollow$Sentence" 73 ⟨"ProperFollow$Sentence", "settleWaiting", "(I)V"⟩ ∈ zWS := zWS_in (List.mem_of_getElem? (i := 1301) (by decide +kernel)) (by decide +kernel)
theorem mlX9_77 : Cond.methodLink "ProperFollow$Sentence" 77 ⟨"ProperFollow$Reader", "toldWord", "()I"⟩ ∈ zWS := zWS_in (List.mem_of_getElem? (i := 1263) (by decide +kernel)) (by decide +kernel)
theorem mlX9_81 : Cond.methodLink "ProperFollow$Sentence" 81 ⟨"ProperFollow$Reader", "isSign", "(I)Z"⟩ ∈ zWS := zWS_in (List.mem_of_getElem? (i := 1264) (by decide +kernel)) (by decide +kernel)
theorem mlX9_85 : Cond.methodLink "ProperFollow$Sentence" 85 ⟨"ProperFollow$Reader", "fail", "(I)V"⟩ ∈ zWS := zWS_in (List.mem_of_getElem? (i := 1268) (by decide +kernel)) (by decide +kernel)
theorem mlX9_88 : Cond.methodLink "ProperFollow$Sentence" 88 ⟨"ProperFollow$Reader", "goOn", "()V"⟩ ∈ zWS := zWS_in (List.mem_of_getElem? (i := 1269) (by decide +kernel)) (by decide +kernel)
theorem mlX9_91 : Cond.methodLink "ProperFollow$Sentence" 91 ⟨"ProperFollow$Sentence", "addWaiting", "(I)V"⟩ ∈ zWS := zWS_in (List.mem_of_getElem? (i := 1270) (by decide +kernel)) (by decide +kernel)
theorem mlX9_94 : Cond.methodLink "ProperFollow$Sentence" 94 ⟨"ProperFollow$Sentence", "readPlain", "(LProperFollow$Reader;LProperFollow$Plan;I)V"⟩ ∈ zWS := zWS_in (List.mem_of_getElem? (i := 1274) (by decide +kernel)) (by decide +kernel)
theorem mlX9_98 : Cond.methodLink "ProperFollow$Sentence" 98 ⟨"ProperFollow$Sentence", "endOne", "()V"⟩ ∈ zWS := zWS_in (List.mem_of_getElem? (i := 1289) (by decide +kernel)) (by decide +kernel)
theorem mlX9_101 : Cond.methodLink "ProperFollow$Sentence" 101 ⟨"ProperFollow$Reader", "needCorner", "(LProperFollow$Plan;)I"⟩ ∈ zWS := zWS_in (List.mem_of_getElem? (i := 1278) (by decide +kernel)) (by decide +kernel)
theorem mlX9_105 : Cond.methodLink "ProperFollow$Sentence" 105 ⟨"ProperFollow$Reader", "needPerson", "(LProperFollow$Plan;)I"⟩ ∈ zWS := zWS_in (List.mem_of_getElem? (i := 1279) (by decide +kernel)) (by decide +kernel)
theorem mlX9_108 : Cond.methodLink "ProperFollow$Sentence" 108 ⟨"ProperFollow$Reader", "takeComparison", "()I"⟩ ∈ zWS := zWS_in (List.mem_of_getElem? (i := 1280) (by decide +kernel)) (by decide +kernel)
theorem mlX9_111 : Cond.methodLink "ProperFollow$Sentence" 111 ⟨"ProperFollow$Reader", "takeNumber", "(II)I"⟩ ∈ zWS := zWS_in (List.mem_of_getElem? (i := 1284) (by decide +kernel)) (by decide +kernel)
theorem mlX9_115 : Cond.methodLink "ProperFollow$Sentence" 115 ⟨"ProperFollow$Sentence", "addPart", "(III)V"⟩ ∈ zWS := zWS_in (List.mem_of_getElem? (i := 1285) (by decide +kernel)) (by decide +kernel)
theorem mlX9_119 : Cond.methodLink "ProperFollow$Sentence" 119 ⟨"ProperFollow$Sentence", "settleBracket", "()Z"⟩ ∈ zWS := zWS_in (List.mem_of_getElem? (i := 1305) (by decide +kernel)) (by decide +kernel)
theorem mlX9_122 : Cond.methodLink "ProperFollow$Sentence" 122 ⟨"ProperFollow$Sentence", "lastWaiting", "()I"⟩ ∈ zWS := zWS_in (List.mem_of_getElem? (i := 1293) (by decide +kernel)) (by decide +kernel)
theorem mlX9_125 : Cond.methodLink "ProperFollow$Sentence" 125 ⟨"ProperFollow$Plan", "persons", "()I"⟩ ∈ zWS := zWS_in (List.mem_of_getElem? (i := 1330) (by decide +kernel)) (by decide +kernel)
theorem mlX9_130 : Cond.methodLink "ProperFollow$Sentence" 130 ⟨"ProperFollow$Sentence", "whoFitsPlain", "(LProperFollow$Plan;LProperFollow$Day;I)I"⟩ ∈ zWS := zWS_in (List.mem_of_getElem? (i := 1331) (by decide +kernel)) (by decide +kernel)
theorem mlX9_134 : Cond.methodLink "ProperFollow$Sentence" 134 ⟨"ProperFollow$Sentence", "fitsPlain", "(LProperFollow$Day;II)Z"⟩ ∈ zWS := zWS_in (List.mem_of_getElem? (i := 1335) (by decide +kernel)) (by decide +kernel)
theorem mlX9_138 : Cond.methodLink "ProperFollow$Sentence" 138 ⟨"ProperFollow$Day", "followersOf", "(I)I"⟩ ∈ zWS := zWS_in (List.mem_of_getElem? (i := 1339) (by decide +kernel)) (by decide +kernel)
theorem mlX9_144 : Cond.methodLink "ProperFollow$Sentence" 144 ⟨"ProperFollow$Day", "ringOf", "(I)I"⟩ ∈ zWS := zWS_in (List.mem_of_getElem? (i := 1340) (by decide +kernel)) (by decide +kernel)
theorem mlX9_147 : Cond.methodLink "ProperFollow$Sentence" 147 ⟨"ProperFollow$Day", "isIdle", "(I)Z"⟩ ∈ zWS := zWS_in (List.mem_of_getElem? (i := 1341) (by decide +kernel)) (by decide +kernel)
theorem mlX9_150 : Cond.methodLink "ProperFollow$Sentence" 150 ⟨"ProperFollow$Day", "whereIs", "(I)I"⟩ ∈ zWS := zWS_in (List.mem_of_getElem? (i := 1342) (by decide +kernel)) (by decide +kernel)
theorem mlX9_153 : Cond.methodLink "ProperFollow$Sentence" 153 ⟨"ProperFollow$Day", "followedBy", "(I)I"⟩ ∈ zWS := zWS_in (List.mem_of_getElem? (i := 1343) (by decide +kernel)) (by decide +kernel)
theorem mlX9_156 : Cond.methodLink "ProperFollow$Sentence" 156 ⟨"ProperFollow$Day", "bunsOf", "(I)I"⟩ ∈ zWS := zWS_in (List.mem_of_getElem? (i := 1344) (by decide +kernel)) (by decide +kernel)
theorem mlX9_159 : Cond.methodLink "ProperFollow$Sentence" 159 ⟨"ProperFollow$Sentence", "compares", "(II)Z"⟩ ∈ zWS := zWS_in (List.mem_of_getElem? (i := 1345) (by decide +kernel)) (by decide +kernel)
theorem mlX9_163 : Cond.methodLink "ProperFollow$Sentence" 163 ⟨"ProperFollow$Day", "wayLeft", "(I)I"⟩ ∈ zWS := zWS_in (List.mem_of_getElem? (i := 1349) (by decide +kernel)) (by decide +kernel)
theorem mlX9_166 : Cond.methodLink "ProperFollow$Sentence" 166 ⟨"java/lang/Integer", "bitCount", "(I)I"⟩ ∈ zWS := zWS_in (List.mem_of_getElem? (i := 1350) (by decide +kernel)) (by decide +kernel)
theorem mlX12_10 : Cond.methodLink "ProperFollowModel" 10 ⟨"ProperFollowModel", "four", "(I)V"⟩ ∈ zWS := zWS_in (List.mem_of_getElem? (i := 1490) (by decide +kernel)) (by decide +kernel)
theorem mlX12_143 : Cond.methodLink "ProperFollowModel" 143 ⟨"ProperFollowModel", "clears", "()V"⟩ ∈ zWS := zWS_in (List.mem_of_getElem? (i := 1526) (by decide +kernel)) (by decide +kernel)
theorem mlX12_146 : Cond.methodLink "ProperFollowModel" 146 ⟨"ProperFollowModel", "peek", "()I"⟩ ∈ zWS := zWS_in (List.mem_of_getElem? (i := 1703) (by decide +kernel)) (by decide +kernel)
theorem mlX12_159 : Cond.methodLink "ProperFollowModel" 159 ⟨"ProperFollowModel", "isSmall", "(I)Z"⟩ ∈ zWS := zWS_in (List.mem_of_getElem? (i := 1707) (by decide +kernel)) (by decide +kernel)
theorem mlX12_163 : Cond.methodLink "ProperFollowModel" 163 ⟨"ProperFollowModel", "isDigit", "(I)Z"⟩ ∈ zWS := zWS_in (List.mem_of_getElem? (i := 1710) (by decide +kernel)) (by decide +kernel)
theorem mlX12_179 : Cond.methodLink "ProperFollowModel" 179 ⟨"ProperFollowModel", "isSign", "(I)Z"⟩ ∈ zWS := zWS_in (List.mem_of_getElem? (i := 1783) (by decide +kernel)) (by decide +kernel)
theorem mlX12_182 : Cond.methodLink "ProperFollowModel" 182 ⟨"ProperFollowModel", "bad", "(I)Z"⟩ ∈ zWS := zWS_in (List.mem_of_getElem? (i := 1725) (by decide +kernel)) (by decide +kernel)
theorem mlX12_185 : Cond.methodLink "ProperFollowModel" 185 ⟨"ProperFollowModel", "next", "()V"⟩ ∈ zWS := zWS_in (List.mem_of_getElem? (i := 1699) (by decide +kernel)) (by decide +kernel)
theorem mlX12_188 : Cond.methodLink "ProperFollowModel" 188 ⟨"ProperFollowModel", "isIn", "(III)Z"⟩ ∈ zWS := zWS_in (List.mem_of_getElem? (i := 1768) (by decide +kernel)) (by decide +kernel)
theorem mlX12_195 : Cond.methodLink "ProperFollowModel" 195 ⟨"ProperFollowModel", "takes", "(II)Z"⟩ ∈ zWS := zWS_in (List.mem_of_getElem? (i := 1764) (by decide +kernel)) (by decide +kernel)
theorem mlX12_199 : Cond.methodLink "ProperFollowModel" 199 ⟨"ProperFollowModel", "isName", "()Z"⟩ ∈ zWS := zWS_in (List.mem_of_getElem? (i := 1733) (by decide +kernel)) (by decide +kernel)
theorem mlX12_203 : Cond.methodLink "ProperFollowModel" 203 ⟨"ProperFollowModel", "seek", "(II)I"⟩ ∈ zWS := zWS_in (List.mem_of_getElem? (i := 1737) (by decide +kernel)) (by decide +kernel)
theorem mlX12_207 : Cond.methodLink "ProperFollowModel" 207 ⟨"ProperFollowModel", "looksAt", "(II)Z"⟩ ∈ zWS := zWS_in (List.mem_of_getElem? (i := 1749) (by decide +kernel)) (by decide +kernel)
theorem mlX12_210 : Cond.methodLink "ProperFollowModel" 210 ⟨"ProperFollowModel", "isWord", "(J)Z"⟩ ∈ zWS := zWS_in (List.mem_of_getElem? (i := 1717) (by decide +kernel)) (by decide +kernel)
theorem mlX12_214 : Cond.methodLink "ProperFollowModel" 214 ⟨"ProperFollowModel", "readCorner", "()Z"⟩ ∈ zWS := zWS_in (List.mem_of_getElem? (i := 1721) (by decide +kernel)) (by decide +kernel)
theorem mlX12_217 : Cond.methodLink "ProperFollowModel" 217 ⟨"ProperFollowModel", "readStreet", "()Z"⟩ ∈ zWS := zWS_in (List.mem_of_getElem? (i := 1741) (by decide +kernel)) (by decide +kernel)
theorem mlX12_220 : Cond.methodLink "ProperFollowModel" 220 ⟨"ProperFollowModel", "readPerson", "()Z"⟩ ∈ zWS := zWS_in (List.mem_of_getElem? (i := 1756) (by decide +kernel)) (by decide +kernel)
theorem mlX12_223 : Cond.methodLink "ProperFollowModel" 223 ⟨"ProperFollowModel", "readNext", "()Z"⟩ ∈ zWS := zWS_in (List.mem_of_getElem? (i := 1771) (by decide +kernel)) (by decide +kernel)
theorem mlX12_226 : Cond.methodLink "ProperFollowModel" 226 ⟨"ProperFollowModel", "readFollows", "()Z"⟩ ∈ zWS := zWS_in (List.mem_of_getElem? (i := 1775) (by decide +kernel)) (by decide +kernel)
theorem mlX12_229 : Cond.methodLink "ProperFollowModel" 229 ⟨"ProperFollowModel", "fresh", "(I)Z"⟩ ∈ zWS := zWS_in (List.mem_of_getElem? (i := 1729) (by decide +kernel)) (by decide +kernel)
theorem mlX12_232 : Cond.methodLink "ProperFollowModel" 232 ⟨"ProperFollowModel", "takesName", "(II)Z"⟩ ∈ zWS := zWS_in (List.mem_of_getElem? (i := 1745) (by decide +kernel)) (by decide +kernel)
theorem mlX12_235 : Cond.methodLink "ProperFollowModel" 235 ⟨"ProperFollowModel", "bitOf", "(II)Z"⟩ ∈ zWS := zWS_in (List.mem_of_getElem? (i := 1753) (by decide +kernel)) (by decide +kernel)
theorem mlX12_238 : Cond.methodLink "ProperFollowModel" 238 ⟨"ProperFollowModel", "puts", "(III)Z"⟩ ∈ zWS := zWS_in (List.mem_of_getElem? (i := 1760) (by decide +kernel)) (by decide +kernel)
theorem mlX12_241 : Cond.methodLink "ProperFollowModel" 241 ⟨"ProperFollowModel", "taken", "(I)V"⟩ ∈ zWS := zWS_in (List.mem_of_getElem? (i := 1695) (by decide +kernel)) (by decide +kernel)
theorem mlX12_247 : Cond.methodLink "ProperFollowModel" 247 ⟨"ProperFollowModel", "readLine", "()Z"⟩ ∈ zWS := zWS_in (List.mem_of_getElem? (i := 1713) (by decide +kernel)) (by decide +kernel)
theorem mlX12_250 : Cond.methodLink "ProperFollowModel" 250 ⟨"ProperFollowModel", "sign", "(I)Z"⟩ ∈ zWS := zWS_in (List.mem_of_getElem? (i := 1779) (by decide +kernel)) (by decide +kernel)
theorem mlX12_253 : Cond.methodLink "ProperFollowModel" 253 ⟨"ProperFollowModel", "laysApart", "()V"⟩ ∈ zWS := zWS_in (List.mem_of_getElem? (i := 1787) (by decide +kernel)) (by decide +kernel)
theorem mlX12_259 : Cond.methodLink "ProperFollowModel" 259 ⟨"ProperFollowModel", "isBeside", "(II)Z"⟩ ∈ zWS := zWS_in (List.mem_of_getElem? (i := 1791) (by decide +kernel)) (by decide +kernel)
theorem mlX12_263 : Cond.methodLink "ProperFollowModel" 263 ⟨"ProperFollowModel", "lesser", "(II)I"⟩ ∈ zWS := zWS_in (List.mem_of_getElem? (i := 1796) (by decide +kernel)) (by decide +kernel)
theorem mlX12_266 : Cond.methodLink "ProperFollowModel" 266 ⟨"ProperFollowModel", "whomBy", "(I)I"⟩ ∈ zWS := zWS_in (List.mem_of_getElem? (i := 1815) (by decide +kernel)) (by decide +kernel)
theorem mlX12_270 : Cond.methodLink "ProperFollowModel" 270 ⟨"ProperFollowModel", "isPerson", "(I)Z"⟩ ∈ zWS := zWS_in (List.mem_of_getElem? (i := 1807) (by decide +kernel)) (by decide +kernel)
theorem mlX12_273 : Cond.methodLink "ProperFollowModel" 273 ⟨"ProperFollowModel", "throwsIf", "(Z)Z"⟩ ∈ zWS := zWS_in (List.mem_of_getElem? (i := 1811) (by decide +kernel)) (by decide +kernel)
theorem mlX12_277 : Cond.methodLink "ProperFollowModel" 277 ⟨"ProperFollowModel", "followersOf", "(I)I"⟩ ∈ zWS := zWS_in (List.mem_of_getElem? (i := 1819) (by decide +kernel)) (by decide +kernel)
theorem mlX12_280 : Cond.methodLink "ProperFollowModel" 280 ⟨"ProperFollowModel", "lastOf", "(I)I"⟩ ∈ zWS := zWS_in (List.mem_of_getElem? (i := 1823) (by decide +kernel)) (by decide +kernel)
theorem mlX12_283 : Cond.methodLink "ProperFollowModel" 283 ⟨"ProperFollowModel", "isCorner", "(I)Z"⟩ ∈ zWS := zWS_in (List.mem_of_getElem? (i := 1835) (by decide +kernel)) (by decide +kernel)
theorem mlX12_286 : Cond.methodLink "ProperFollowModel" 286 ⟨"ProperFollowModel", "ringOf", "(I)I"⟩ ∈ zWS := zWS_in (List.mem_of_getElem? (i := 1843) (by decide +kernel)) (by decide +kernel)
theorem mlX12_289 : Cond.methodLink "ProperFollowModel" 289 ⟨"ProperFollowModel", "printsInAll", "()I"⟩ ∈ zWS := zWS_in (List.mem_of_getElem? (i := 1847) (by decide +kernel)) (by decide +kernel)
theorem mlX12_292 : Cond.methodLink "ProperFollowModel" 292 ⟨"ProperFollowModel", "towards", "(II)I"⟩ ∈ zWS := zWS_in (List.mem_of_getElem? (i := 1911) (by decide +kernel)) (by decide +kernel)
theorem mlX12_295 : Cond.methodLink "ProperFollowModel" 295 ⟨"ProperFollowModel", "goesTo", "(I)I"⟩ ∈ zWS := zWS_in (List.mem_of_getElem? (i := 1907) (by decide +kernel)) (by decide +kernel)
theorem mlX12_298 : Cond.methodLink "ProperFollowModel" 298 ⟨"ProperFollowModel", "minute", "()V"⟩ ∈ zWS := zWS_in (List.mem_of_getElem? (i := 1903) (by decide +kernel)) (by decide +kernel)
theorem mlX12_301 : Cond.methodLink "ProperFollowModel" 301 ⟨"ProperFollowModel", "whySend", "(II)I"⟩ ∈ zWS := zWS_in (List.mem_of_getElem? (i := 1855) (by decide +kernel)) (by decide +kernel)
theorem mlX12_304 : Cond.methodLink "ProperFollowModel" 304 ⟨"ProperFollowModel", "keep", "()V"⟩ ∈ zWS := zWS_in (List.mem_of_getElem? (i := 1859) (by decide +kernel)) (by decide +kernel)
theorem mlX12_307 : Cond.methodLink "ProperFollowModel" 307 ⟨"ProperFollowModel", "sends", "(II)V"⟩ ∈ zWS := zWS_in (List.mem_of_getElem? (i := 1863) (by decide +kernel)) (by decide +kernel)
theorem mlX12_311 : Cond.methodLink "ProperFollowModel" 311 ⟨"ProperFollowModel", "lets", "(I)V"⟩ ∈ zWS := zWS_in (List.mem_of_getElem? (i := 1871) (by decide +kernel)) (by decide +kernel)
theorem mlX12_314 : Cond.methodLink "ProperFollowModel" 314 ⟨"ProperFollowModel", "parts", "(I)V"⟩ ∈ zWS := zWS_in (List.mem_of_getElem? (i := 1879) (by decide +kernel)) (by decide +kernel)
theorem mlX12_317 : Cond.methodLink "ProperFollowModel" 317 ⟨"ProperFollowModel", "whyHire", "(I)I"⟩ ∈ zWS := zWS_in (List.mem_of_getElem? (i := 1887) (by decide +kernel)) (by decide +kernel)
theorem mlX12_320 : Cond.methodLink "ProperFollowModel" 320 ⟨"ProperFollowModel", "binds", "(III)V"⟩ ∈ zWS := zWS_in (List.mem_of_getElem? (i := 1891) (by decide +kernel)) (by decide +kernel)
theorem mlX12_324 : Cond.methodLink "ProperFollowModel" 324 ⟨"ProperFollowModel", "goesOn", "(I)I"⟩ ∈ zWS := zWS_in (List.mem_of_getElem? (i := 1899) (by decide +kernel)) (by decide +kernel)
theorem mlX12_334 : Cond.methodLink "ProperFollowModel" 334 ⟨"ProperFollowModel", "bits", "(I)I"⟩ ∈ zWS := zWS_in (List.mem_of_getElem? (i := 1927) (by decide +kernel)) (by decide +kernel)
theorem mlX12_337 : Cond.methodLink "ProperFollowModel" 337 ⟨"ProperFollowModel", "tries", "()V"⟩ ∈ zWS := zWS_in (List.mem_of_getElem? (i := 1938) (by decide +kernel)) (by decide +kernel)
theorem mlX12_340 : Cond.methodLink "ProperFollowModel" 340 ⟨"ProperFollowModel", "back", "()V"⟩ ∈ zWS := zWS_in (List.mem_of_getElem? (i := 1942) (by decide +kernel)) (by decide +kernel)
theorem mlX12_343 : Cond.methodLink "ProperFollowModel" 343 ⟨"ProperFollowModel", "isProper", "(III)Z"⟩ ∈ zWS := zWS_in (List.mem_of_getElem? (i := 1950) (by decide +kernel)) (by decide +kernel)
theorem mlX12_346 : Cond.methodLink "ProperFollowModel" 346 ⟨"ProperFollowModel", "octet", "(I)I"⟩ ∈ zWS := zWS_in (List.mem_of_getElem? (i := 1958) (by decide +kernel)) (by decide +kernel)
theorem mlX12_349 : Cond.methodLink "ProperFollowModel" 349 ⟨"ProperFollowModel", "greater", "(II)I"⟩ ∈ zWS := zWS_in (List.mem_of_getElem? (i := 1970) (by decide +kernel)) (by decide +kernel)
theorem mlX12_352 : Cond.methodLink "ProperFollowModel" 352 ⟨"ProperFollowModel", "isFit", "(I)Z"⟩ ∈ zWS := zWS_in (List.mem_of_getElem? (i := 1962) (by decide +kernel)) (by decide +kernel)
theorem mlX12_361 : Cond.methodLink "ProperFollowModel" 361 ⟨"ProperFollowModel", "leftBy", "(II)I"⟩ ∈ zWS := zWS_in (List.mem_of_getElem? (i := 1966) (by decide +kernel)) (by decide +kernel)
theorem mlX12_364 : Cond.methodLink "ProperFollowModel" 364 ⟨"ProperFollowModel", "isReached", "(III)Z"⟩ ∈ zWS := zWS_in (List.mem_of_getElem? (i := 1989) (by decide +kernel)) (by decide +kernel)
theorem mlX12_373 : Cond.methodLink "ProperFollowModel" 373 ⟨"ProperFollowModel", "isIdle", "(I)Z"⟩ ∈ zWS := zWS_in (List.mem_of_getElem? (i := 2009) (by decide +kernel)) (by decide +kernel)
theorem mlX12_376 : Cond.methodLink "ProperFollowModel" 376 ⟨"ProperFollowModel", "worthBy", "(III)I"⟩ ∈ zWS := zWS_in (List.mem_of_getElem? (i := 2001) (by decide +kernel)) (by decide +kernel)
theorem mlX12_380 : Cond.methodLink "ProperFollowModel" 380 ⟨"ProperFollowModel", "couldBe", "(II)I"⟩ ∈ zWS := zWS_in (List.mem_of_getElem? (i := 2005) (by decide +kernel)) (by decide +kernel)
theorem mlX12_391 : Cond.methodLink "ProperFollowModel" 391 ⟨"ProperFollowModel", "lays", "(I)V"⟩ ∈ zWS := zWS_in (List.mem_of_getElem? (i := 2034) (by decide +kernel)) (by decide +kernel)
theorem mlX12_394 : Cond.methodLink "ProperFollowModel" 394 ⟨"ProperFollowModel", "spells", "(J)V"⟩ ∈ zWS := zWS_in (List.mem_of_getElem? (i := 2029) (by decide +kernel)) (by decide +kernel)
theorem mlX12_398 : Cond.methodLink "ProperFollowModel" 398 ⟨"ProperFollowModel", "says", "(J)V"⟩ ∈ zWS := zWS_in (List.mem_of_getElem? (i := 2038) (by decide +kernel)) (by decide +kernel)
theorem mlX12_407 : Cond.methodLink "ProperFollowModel" 407 ⟨"ProperFollowModel", "draw", "(I)I"⟩ ∈ zWS := zWS_in (List.mem_of_getElem? (i := 2059) (by decide +kernel)) (by decide +kernel)
theorem mlX12_410 : Cond.methodLink "ProperFollowModel" 410 ⟨"ProperFollowModel", "drawPerson", "(I)V"⟩ ∈ zWS := zWS_in (List.mem_of_getElem? (i := 2055) (by decide +kernel)) (by decide +kernel)
theorem mlX12_413 : Cond.methodLink "ProperFollowModel" 413 ⟨"ProperFollowModel", "draws", "(II)I"⟩ ∈ zWS := zWS_in (List.mem_of_getElem? (i := 2051) (by decide +kernel)) (by decide +kernel)
theorem mlX12_419 : Cond.methodLink "ProperFollowModel" 419 ⟨"ProperFollowModel", "bookLine", "()Z"⟩ ∈ zWS := zWS_in (List.mem_of_getElem? (i := 2072) (by decide +kernel)) (by decide +kernel)
theorem mlX12_422 : Cond.methodLink "ProperFollowModel" 422 ⟨"ProperFollowModel", "does", "(IIII)I"⟩ ∈ zWS := zWS_in (List.mem_of_getElem? (i := 2076) (by decide +kernel)) (by decide +kernel)
theorem mlX12_435 : Cond.methodLink "ProperFollowModel" 435 ⟨"ProperFollowModel", "code", "(III)V"⟩ ∈ zWS := zWS_in (List.mem_of_getElem? (i := 2092) (by decide +kernel)) (by decide +kernel)
theorem mlX12_441 : Cond.methodLink "ProperFollowModel" 441 ⟨"ProperFollowModel", "leafOf", "()I"⟩ ∈ zWS := zWS_in (List.mem_of_getElem? (i := 2108) (by decide +kernel)) (by decide +kernel)
theorem mlX12_450 : Cond.methodLink "ProperFollowModel" 450 ⟨"ProperFollowModel", "nots", "()V"⟩ ∈ zWS := zWS_in (List.mem_of_getElem? (i := 2088) (by decide +kernel)) (by decide +kernel)
theorem mlX12_453 : Cond.methodLink "ProperFollowModel" 453 ⟨"ProperFollowModel", "joins", "(I)V"⟩ ∈ zWS := zWS_in (List.mem_of_getElem? (i := 2096) (by decide +kernel)) (by decide +kernel)
theorem mlX12_456 : Cond.methodLink "ProperFollowModel" 456 ⟨"ProperFollowModel", "behind", "()Z"⟩ ∈ zWS := zWS_in (List.mem_of_getElem? (i := 2100) (by decide +kernel)) (by decide +kernel)
theorem mlX12_459 : Cond.methodLink "ProperFollowModel" 459 ⟨"ProperFollowModel", "operand", "()Z"⟩ ∈ zWS := zWS_in (List.mem_of_getElem? (i := 2104) (by decide +kernel)) (by decide +kernel)
theorem mlX12_462 : Cond.methodLink "ProperFollowModel" 462 ⟨"ProperFollowModel", "isLeaf", "(IIII)Z"⟩ ∈ zWS := zWS_in (List.mem_of_getElem? (i := 2120) (by decide +kernel)) (by decide +kernel)
theorem mlX12_466 : Cond.methodLink "ProperFollowModel" 466 ⟨"ProperFollowModel", "isSaid", "(I)Z"⟩ ∈ zWS := zWS_in (List.mem_of_getElem? (i := 2116) (by decide +kernel)) (by decide +kernel)
theorem nlX7_46 : ("ProperFollow$Plan", 46, (⟨"ProperFollow", "hasBit", "(II)Z"⟩ : MethodName), "ProperFollow") ∈ zNW := List.mem_of_getElem? (i := 9) (by decide +kernel)
theorem cI1063 : Cond.constant "ProperFollow$Draws" 15 1103515245 ∈ zWS := zWS_in (List.mem_of_getElem? (i := 1177) (by decide +kernel)) (by decide +kernel)
theorem cI1681 : Cond.constant "ProperFollowModel" 262 1000000 ∈ zWS := zWS_in (List.mem_of_getElem? (i := 1795) (by decide +kernel)) (by decide +kernel)
theorem cI1949 : Cond.constant "ProperFollowModel" 406 1103515245 ∈ zWS := zWS_in (List.mem_of_getElem? (i := 2063) (by decide +kernel)) (by decide +kernel)
theorem cI752 : Cond.constant "java/lang/Integer" 265 1431655765 ∈ zWS := zWS_in (List.mem_of_getElem? (i := 866) (by decide +kernel)) (by decide +kernel)
theorem cI753 : Cond.constant "java/lang/Integer" 266 858993459 ∈ zWS := zWS_in (List.mem_of_getElem? (i := 867) (by decide +kernel)) (by decide +kernel)
theorem cI754 : Cond.constant "java/lang/Integer" 267 252645135 ∈ zWS := zWS_in (List.mem_of_getElem? (i := 868) (by decide +kernel)) (by decide +kernel)
theorem cL1007 : Cond.constantLong "ProperFollow$Line" 33 31 ∈ zWS := zWS_in (List.mem_of_getElem? (i := 1121) (by decide +kernel)) (by decide +kernel)
theorem cL109 : Cond.constantLong "ProperFollow$Reader" 39 32 ∈ zWS := zWS_in (List.mem_of_getElem? (i := 223) (by decide +kernel)) (by decide +kernel)
theorem cL1390 : Cond.constantLong "ProperFollowModel" 99 109330312357234 ∈ zWS := zWS_in (List.mem_of_getElem? (i := 1504) (by decide +kernel)) (by decide +kernel)
theorem cL1391 : Cond.constantLong "ProperFollowModel" 101 126943972648308 ∈ zWS := zWS_in (List.mem_of_getElem? (i := 1505) (by decide +kernel)) (by decide +kernel)
theorem cL1392 : Cond.constantLong "ProperFollowModel" 103 123581014175598 ∈ zWS := zWS_in (List.mem_of_getElem? (i := 1506) (by decide +kernel)) (by decide +kernel)
theorem cL1393 : Cond.constantLong "ProperFollowModel" 105 1852143732 ∈ zWS := zWS_in (List.mem_of_getElem? (i := 1507) (by decide +kernel)) (by decide +kernel)
theorem cL1394 : Cond.constantLong "ProperFollowModel" 107 28832959090882419 ∈ zWS := zWS_in (List.mem_of_getElem? (i := 1508) (by decide +kernel)) (by decide +kernel)
theorem cL1395 : Cond.constantLong "ProperFollowModel" 109 1735353715 ∈ zWS := zWS_in (List.mem_of_getElem? (i := 1509) (by decide +kernel)) (by decide +kernel)
theorem cL1396 : Cond.constantLong "ProperFollowModel" 111 431416635507 ∈ zWS := zWS_in (List.mem_of_getElem? (i := 1510) (by decide +kernel)) (by decide +kernel)
theorem cL1397 : Cond.constantLong "ProperFollowModel" 113 119182682645875 ∈ zWS := zWS_in (List.mem_of_getElem? (i := 1511) (by decide +kernel)) (by decide +kernel)
theorem cL1398 : Cond.constantLong "ProperFollowModel" 115 448445703539 ∈ zWS := zWS_in (List.mem_of_getElem? (i := 1512) (by decide +kernel)) (by decide +kernel)
theorem cL1399 : Cond.constantLong "ProperFollowModel" 117 120299592184933 ∈ zWS := zWS_in (List.mem_of_getElem? (i := 1513) (by decide +kernel)) (by decide +kernel)
theorem cL1400 : Cond.constantLong "ProperFollowModel" 119 28530 ∈ zWS := zWS_in (List.mem_of_getElem? (i := 1514) (by decide +kernel)) (by decide +kernel)
theorem cL1401 : Cond.constantLong "ProperFollowModel" 121 6385252 ∈ zWS := zWS_in (List.mem_of_getElem? (i := 1515) (by decide +kernel)) (by decide +kernel)
theorem cL1402 : Cond.constantLong "ProperFollowModel" 123 7237492 ∈ zWS := zWS_in (List.mem_of_getElem? (i := 1516) (by decide +kernel)) (by decide +kernel)
theorem cL1403 : Cond.constantLong "ProperFollowModel" 125 418431069797 ∈ zWS := zWS_in (List.mem_of_getElem? (i := 1517) (by decide +kernel)) (by decide +kernel)
theorem cL1404 : Cond.constantLong "ProperFollowModel" 127 125797149402468 ∈ zWS := zWS_in (List.mem_of_getElem? (i := 1518) (by decide +kernel)) (by decide +kernel)
theorem cL1405 : Cond.constantLong "ProperFollowModel" 129 1768189029 ∈ zWS := zWS_in (List.mem_of_getElem? (i := 1519) (by decide +kernel)) (by decide +kernel)
theorem cL1406 : Cond.constantLong "ProperFollowModel" 131 24948 ∈ zWS := zWS_in (List.mem_of_getElem? (i := 1520) (by decide +kernel)) (by decide +kernel)
theorem cL1407 : Cond.constantLong "ProperFollowModel" 133 418330731890 ∈ zWS := zWS_in (List.mem_of_getElem? (i := 1521) (by decide +kernel)) (by decide +kernel)
theorem cL1408 : Cond.constantLong "ProperFollowModel" 135 1651863155 ∈ zWS := zWS_in (List.mem_of_getElem? (i := 1522) (by decide +kernel)) (by decide +kernel)
theorem cL1409 : Cond.constantLong "ProperFollowModel" 137 1818584692 ∈ zWS := zWS_in (List.mem_of_getElem? (i := 1523) (by decide +kernel)) (by decide +kernel)
theorem cL1410 : Cond.constantLong "ProperFollowModel" 139 108187682958948 ∈ zWS := zWS_in (List.mem_of_getElem? (i := 1524) (by decide +kernel)) (by decide +kernel)
theorem cL1411 : Cond.constantLong "ProperFollowModel" 141 121450625394034 ∈ zWS := zWS_in (List.mem_of_getElem? (i := 1525) (by decide +kernel)) (by decide +kernel)
theorem cL1919 : Cond.constantLong "ProperFollowModel" 389 255 ∈ zWS := zWS_in (List.mem_of_getElem? (i := 2033) (by decide +kernel)) (by decide +kernel)
theorem cL1928 : Cond.constantLong "ProperFollowModel" 401 495873784179 ∈ zWS := zWS_in (List.mem_of_getElem? (i := 2042) (by decide +kernel)) (by decide +kernel)
theorem zcpw : Cond.native arraycopyName ∈ zWS ∧ Cond.static arraycopyName ∈ zWS ∧ Cond.initialized "java/lang/System" ∈ zWS := ⟨zWS_in (List.mem_of_getElem? (i := 784) (by decide +kernel)) (by decide +kernel), zWS_in (List.mem_of_getElem? (i := 783) (by decide +kernel)) (by decide +kernel), zWS_in (List.mem_of_getElem? (i := 134) (by decide +kernel)) (by decide +kernel)⟩
theorem zmminw : Cond.static Lib.Math.min.name ∈ zWS ∧ Cond.initialized "java/lang/Math" ∈ zWS ∧ Cond.code Lib.Math.min.name Lib.Math.min.code 2 (some .int) ∈ zWS := ⟨zWS_in (List.mem_of_getElem? (i := 589) (by decide +kernel)) (by decide +kernel), zWS_in (List.mem_of_getElem? (i := 133) (by decide +kernel)) (by decide +kernel), zWS_in (List.mem_of_getElem? (i := 590) (by decide +kernel)) (by decide +kernel)⟩
theorem zmmaxw : Cond.static Lib.Math.max.name ∈ zWS ∧ Cond.initialized "java/lang/Math" ∈ zWS ∧ Cond.code Lib.Math.max.name Lib.Math.max.code 2 (some .int) ∈ zWS := ⟨zWS_in (List.mem_of_getElem? (i := 603) (by decide +kernel)) (by decide +kernel), zWS_in (List.mem_of_getElem? (i := 133) (by decide +kernel)) (by decide +kernel), zWS_in (List.mem_of_getElem? (i := 604) (by decide +kernel)) (by decide +kernel)⟩
