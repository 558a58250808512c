def mq_J_bitCount : cx_M := (⟨"java/lang/Integer", "bitCount", "(I)I"⟩, prog_9_method_49_code, 1, some .int)
def mq_J_max : cx_M := (⟨"java/lang/Math", "max", "(II)I"⟩, prog_10_method_65_code, 2, some .int)
def mq_J_length : cx_M := (⟨"java/lang/String", "length", "()I"⟩, prog_11_method_54_code, 1, some .int)
def mq_J_charAt : cx_M := (⟨"java/lang/String", "charAt", "(I)C"⟩, prog_11_method_56_code, 2, some .char)
def mq_J_coder : cx_M := (⟨"java/lang/String", "coder", "()B"⟩, prog_11_method_152_code, 1, some .byte)
def mq_J_isLatin1 : cx_M := (⟨"java/lang/String", "isLatin1", "()Z"⟩, prog_11_method_154_code, 1, some .boolean)
def mq_J_checkIndex : cx_M := (⟨"java/lang/String", "checkIndex", "(II)V"⟩, prog_11_method_155_code, 2, none)
def mq_JL_charAt : cx_M := (⟨"java/lang/StringLatin1", "charAt", "([BI)C"⟩, prog_12_method_2_code, 2, some .char)
def mq_JP_checkIndex : cx_M := (⟨"jdk/internal/util/Preconditions", "checkIndex", "(IILjava/util/function/BiFunction;)I"⟩, prog_15_method_11_code, 3, some .int)
def mq_K_foxMay : cx_M := (⟨"FoxGeese$Kinds", "foxMay", "(IIIII)Z"⟩, prog_4_method_2_code, 11, some .boolean)
def mq_K_gooseMay : cx_M := (⟨"FoxGeese$Kinds", "gooseMay", "(IIII)Z"⟩, prog_4_method_3_code, 9, some .boolean)
def mq_K_foxesThatMay : cx_M := (⟨"FoxGeese$Kinds", "foxesThatMay", "(IIII)I"⟩, prog_4_method_4_code, 6, some .int)
def mq_K_geeseThatMay : cx_M := (⟨"FoxGeese$Kinds", "geeseThatMay", "(III)I"⟩, prog_4_method_5_code, 5, some .int)
def mq_T_add : cx_M := (⟨"FoxGeese$Told", "add", "(IIIII)Z"⟩, prog_6_method_2_code, 7, some .boolean)
def mq_T_at : cx_M := (⟨"FoxGeese$Told", "at", "(II)I"⟩, prog_6_method_3_code, 4, some .int)
def mq_T_copyFrom : cx_M := (⟨"FoxGeese$Told", "copyFrom", "(LFoxGeese$Told;)V"⟩, prog_6_method_4_code, 2, none)
def mq_T_digestFrom : cx_M := (⟨"FoxGeese$Told", "digestFrom", "(J)J"⟩, prog_6_method_5_code, 4, some .long)
def mq_B_begin : cx_M := (⟨"FoxGeese$Board", "begin", "(II)V"⟩, prog_2_method_2_code, 3, none)
def mq_B_copyFrom : cx_M := (⟨"FoxGeese$Board", "copyFrom", "(LFoxGeese$Board;)V"⟩, prog_2_method_3_code, 3, none)
def mq_B_hasCell : cx_M := (⟨"FoxGeese$Board", "hasCell", "(I)Z"⟩, prog_2_method_4_code, 2, some .boolean)
def mq_B_isFree : cx_M := (⟨"FoxGeese$Board", "isFree", "(I)Z"⟩, prog_2_method_5_code, 2, some .boolean)
def mq_B_isFreeForFox : cx_M := (⟨"FoxGeese$Board", "isFreeForFox", "(I)Z"⟩, prog_2_method_6_code, 2, some .boolean)
def mq_B_isGoose : cx_M := (⟨"FoxGeese$Board", "isGoose", "(I)Z"⟩, prog_2_method_7_code, 2, some .boolean)
def mq_B_isGooseAlive : cx_M := (⟨"FoxGeese$Board", "isGooseAlive", "(I)Z"⟩, prog_2_method_8_code, 2, some .boolean)
def mq_B_kindOf : cx_M := (⟨"FoxGeese$Board", "kindOf", "(I)I"⟩, prog_2_method_9_code, 2, some .int)
def mq_B_cellOf : cx_M := (⟨"FoxGeese$Board", "cellOf", "(I)I"⟩, prog_2_method_10_code, 2, some .int)
def mq_B_eaten : cx_M := (⟨"FoxGeese$Board", "eaten", "()I"⟩, prog_2_method_11_code, 1, some .int)
def mq_B_gooseBits : cx_M := (⟨"FoxGeese$Board", "gooseBits", "()I"⟩, prog_2_method_12_code, 3, some .int)
def mq_B_firstMover : cx_M := (⟨"FoxGeese$Board", "firstMover", "()I"⟩, prog_2_method_13_code, 1, some .int)
def mq_B_lastMover : cx_M := (⟨"FoxGeese$Board", "lastMover", "()I"⟩, prog_2_method_14_code, 1, some .int)
def mq_B_reach : cx_M := (⟨"FoxGeese$Board", "reach", "(I)I"⟩, prog_2_method_15_code, 2, some .int)
def mq_B_gooseReach : cx_M := (⟨"FoxGeese$Board", "gooseReach", "(I)I"⟩, prog_2_method_16_code, 9, some .int)
def mq_B_open : cx_M := (⟨"FoxGeese$Board", "open", "()I"⟩, prog_2_method_17_code, 1, some .int)
def mq_B_foxReach : cx_M := (⟨"FoxGeese$Board", "foxReach", "(IIZ)I"⟩, prog_2_method_18_code, 14, some .int)
def mq_B_walkOn : cx_M := (⟨"FoxGeese$Board", "walkOn", "(II)I"⟩, prog_2_method_19_code, 5, some .int)
def mq_B_halfWay : cx_M := (⟨"FoxGeese$Board", "halfWay", "(II)I"⟩, prog_2_method_20_code, 5, some .int)
def mq_B_isHome : cx_M := (⟨"FoxGeese$Board", "isHome", "()Z"⟩, prog_2_method_21_code, 1, some .boolean)
def mq_B_outcome : cx_M := (⟨"FoxGeese$Board", "outcome", "()I"⟩, prog_2_method_22_code, 1, some .int)
def mq_B_countMoves : cx_M := (⟨"FoxGeese$Board", "countMoves", "()I"⟩, prog_2_method_23_code, 4, some .int)
def mq_B_mayPass : cx_M := (⟨"FoxGeese$Board", "mayPass", "()Z"⟩, prog_2_method_24_code, 2, some .boolean)
def mq_B_mayMove : cx_M := (⟨"FoxGeese$Board", "mayMove", "(II)Z"⟩, prog_2_method_25_code, 4, some .boolean)
def mq_B_step : cx_M := (⟨"FoxGeese$Board", "step", "(II)Z"⟩, prog_2_method_26_code, 4, some .boolean)
def mq_B_eatAt : cx_M := (⟨"FoxGeese$Board", "eatAt", "(I)Z"⟩, prog_2_method_27_code, 3, some .boolean)
def mq_B_endMove : cx_M := (⟨"FoxGeese$Board", "endMove", "()V"⟩, prog_2_method_28_code, 1, none)
def mq_G_begin : cx_M := (⟨"FoxGeese$Game", "begin", "(II)V"⟩, prog_3_method_2_code, 3, none)
def mq_G_copyFrom : cx_M := (⟨"FoxGeese$Game", "copyFrom", "(LFoxGeese$Game;)V"⟩, prog_3_method_3_code, 2, none)
def mq_G_plant : cx_M := (⟨"FoxGeese$Game", "plant", "(I)V"⟩, prog_3_method_4_code, 2, none)
def mq_G_putFox : cx_M := (⟨"FoxGeese$Game", "putFox", "(II)V"⟩, prog_3_method_5_code, 3, none)
def mq_G_addGoose : cx_M := (⟨"FoxGeese$Game", "addGoose", "(II)V"⟩, prog_3_method_6_code, 4, none)
def mq_G_remember : cx_M := (⟨"FoxGeese$Game", "remember", "()V"⟩, prog_3_method_7_code, 3, none)
def mq_G_takeBack : cx_M := (⟨"FoxGeese$Game", "takeBack", "()Z"⟩, prog_3_method_8_code, 3, some .boolean)
def mq_R_addByte : cx_M := (⟨"FoxGeese$Reader", "addByte", "(I)Z"⟩, prog_5_method_2_code, 2, some .boolean)
def mq_R_readText : cx_M := (⟨"FoxGeese$Reader", "readText", "()I"⟩, prog_5_method_3_code, 3, some .int)
def mq_R_readParts : cx_M := (⟨"FoxGeese$Reader", "readParts", "(I)Z"⟩, prog_5_method_4_code, 2, some .boolean)
def mq_R_readField : cx_M := (⟨"FoxGeese$Reader", "readField", "()Z"⟩, prog_5_method_5_code, 3, some .boolean)
def mq_R_readThicket : cx_M := (⟨"FoxGeese$Reader", "readThicket", "()Z"⟩, prog_5_method_6_code, 2, some .boolean)
def mq_R_readFox : cx_M := (⟨"FoxGeese$Reader", "readFox", "()Z"⟩, prog_5_method_7_code, 3, some .boolean)
def mq_R_readGoose : cx_M := (⟨"FoxGeese$Reader", "readGoose", "()Z"⟩, prog_5_method_8_code, 3, some .boolean)
def mq_R_readStep : cx_M := (⟨"FoxGeese$Reader", "readStep", "(I)Z"⟩, prog_5_method_9_code, 3, some .boolean)
def mq_R_nextGoose : cx_M := (⟨"FoxGeese$Reader", "nextGoose", "()I"⟩, prog_5_method_10_code, 2, some .int)
def mq_R_readPass : cx_M := (⟨"FoxGeese$Reader", "readPass", "()Z"⟩, prog_5_method_11_code, 1, some .boolean)
def mq_R_nextNumber : cx_M := (⟨"FoxGeese$Reader", "nextNumber", "()I"⟩, prog_5_method_12_code, 3, some .int)
def mq_R_nextToken : cx_M := (⟨"FoxGeese$Reader", "nextToken", "()V"⟩, prog_5_method_13_code, 3, none)
def mq_R_itemNamed : cx_M := (⟨"FoxGeese$Reader", "itemNamed", "()I"⟩, prog_5_method_14_code, 1, some .int)
def mq_R_tokenIs : cx_M := (⟨"FoxGeese$Reader", "tokenIs", "(Ljava/lang/String;)Z"⟩, prog_5_method_15_code, 3, some .boolean)
def mq_R_byteAt : cx_M := (⟨"FoxGeese$Reader", "byteAt", "(I)I"⟩, prog_5_method_16_code, 2, some .int)
def mq_R_isLetter : cx_M := (⟨"FoxGeese$Reader", "isLetter", "(I)Z"⟩, prog_5_method_17_code, 1, some .boolean)
def mq_R_isFigure : cx_M := (⟨"FoxGeese$Reader", "isFigure", "(I)Z"⟩, prog_5_method_18_code, 1, some .boolean)
def mq_F_field : cx_M := (⟨"FoxGeese", "field", "(II)I"⟩, prog_1_method_2_code, 4, some .int)
def mq_F_thicket : cx_M := (⟨"FoxGeese", "thicket", "(I)I"⟩, prog_1_method_3_code, 3, some .int)
def mq_F_fox : cx_M := (⟨"FoxGeese", "fox", "(II)I"⟩, prog_1_method_4_code, 5, some .int)
def mq_F_goose : cx_M := (⟨"FoxGeese", "goose", "(II)I"⟩, prog_1_method_5_code, 4, some .int)
def mq_F_type : cx_M := (⟨"FoxGeese", "type", "(I)I"⟩, prog_1_method_6_code, 2, some .int)
def mq_F_clear : cx_M := (⟨"FoxGeese", "clear", "()I"⟩, prog_1_method_7_code, 2, some .int)
def mq_F_read : cx_M := (⟨"FoxGeese", "read", "()I"⟩, prog_1_method_8_code, 2, some .int)
def mq_F_goes : cx_M := (⟨"FoxGeese", "goes", "(I)I"⟩, prog_1_method_9_code, 2, some .int)
def mq_F_moves : cx_M := (⟨"FoxGeese", "moves", "(II)I"⟩, prog_1_method_10_code, 5, some .int)
def mq_F_passes : cx_M := (⟨"FoxGeese", "passes", "()I"⟩, prog_1_method_11_code, 1, some .int)
def mq_F_undo : cx_M := (⟨"FoxGeese", "undo", "()I"⟩, prog_1_method_12_code, 1, some .int)
def mq_F_of : cx_M := (⟨"FoxGeese", "of", "(II)I"⟩, prog_1_method_13_code, 4, some .int)
def mq_F_can : cx_M := (⟨"FoxGeese", "can", "(I)I"⟩, prog_1_method_14_code, 2, some .int)
def mq_F_worth : cx_M := (⟨"FoxGeese", "worth", "(I)I"⟩, prog_1_method_15_code, 2, some .int)
def mq_F_best : cx_M := (⟨"FoxGeese", "best", "(I)I"⟩, prog_1_method_16_code, 2, some .int)
def mq_F_few : cx_M := (⟨"FoxGeese", "few", "()I"⟩, prog_1_method_17_code, 5, some .int)
def mq_F_luck : cx_M := (⟨"FoxGeese", "luck", "(I)I"⟩, prog_1_method_18_code, 2, some .int)
def mq_F_note : cx_M := (⟨"FoxGeese", "note", "(IIIII)I"⟩, prog_1_method_19_code, 6, some .int)
def mq_F_mark : cx_M := (⟨"FoxGeese", "mark", "(IIIII)I"⟩, prog_1_method_20_code, 6, some .int)
def mq_F_forget : cx_M := (⟨"FoxGeese", "forget", "(I)I"⟩, prog_1_method_21_code, 4, some .int)
def mq_F_is : cx_M := (⟨"FoxGeese", "is", "()I"⟩, prog_1_method_22_code, 1, some .int)
def mq_F_look : cx_M := (⟨"FoxGeese", "look", "()I"⟩, prog_1_method_23_code, 1, some .int)
def mq_F_kinds : cx_M := (⟨"FoxGeese", "kinds", "(I)I"⟩, prog_1_method_24_code, 2, some .int)
def mq_F_ask : cx_M := (⟨"FoxGeese", "ask", "(I)I"⟩, prog_1_method_25_code, 2, some .int)
def mq_F_evenings : cx_M := (⟨"FoxGeese", "evenings", "(II)I"⟩, prog_1_method_26_code, 7, some .int)
def mq_F_part : cx_M := (⟨"FoxGeese", "part", "(I)J"⟩, prog_1_method_27_code, 2, some .long)
def mq_F_image : cx_M := (⟨"FoxGeese", "image", "(I)I"⟩, prog_1_method_28_code, 2, some .int)
def mq_F_from : cx_M := (⟨"FoxGeese", "from", "(I)I"⟩, prog_1_method_29_code, 2, some .int)
def mq_F_status : cx_M := (⟨"FoxGeese", "status", "(I)I"⟩, prog_1_method_30_code, 2, some .int)
def mq_F_count : cx_M := (⟨"FoxGeese", "count", "(I)I"⟩, prog_1_method_31_code, 2, some .int)
def mq_F_digest : cx_M := (⟨"FoxGeese", "digest", "()J"⟩, prog_1_method_32_code, 5, some .long)
def mq_F_refuse : cx_M := (⟨"FoxGeese", "refuse", "(I)I"⟩, prog_1_method_33_code, 3, some .int)
def mq_F_isWithin : cx_M := (⟨"FoxGeese", "isWithin", "(III)Z"⟩, prog_1_method_34_code, 3, some .boolean)
def mq_F_isSide : cx_M := (⟨"FoxGeese", "isSide", "(I)Z"⟩, prog_1_method_35_code, 1, some .boolean)
def mq_F_isKind : cx_M := (⟨"FoxGeese", "isKind", "(I)Z"⟩, prog_1_method_36_code, 1, some .boolean)
def mq_F_isToldStep : cx_M := (⟨"FoxGeese", "isToldStep", "(IIII)Z"⟩, prog_1_method_37_code, 4, some .boolean)
def mq_F_howMany : cx_M := (⟨"FoxGeese", "howMany", "(I)I"⟩, prog_1_method_38_code, 3, some .int)
def mq_F_worthBehind : cx_M := (⟨"FoxGeese", "worthBehind", "([LFoxGeese$Board;[ILFoxGeese$Board;III)I"⟩, prog_1_method_39_code, 15, some .int)
def mq_F_homeShares : cx_M := (⟨"FoxGeese", "homeShares", "([LFoxGeese$Board;LFoxGeese$Board;I)J"⟩, prog_1_method_40_code, 9, some .long)
def mq_F_power : cx_M := (⟨"FoxGeese", "power", "(JI)J"⟩, prog_1_method_41_code, 6, some .long)
def mq_F_keepFraction : cx_M := (⟨"FoxGeese", "keepFraction", "(JJ)V"⟩, prog_1_method_42_code, 7, none)
def mq_F_greatestDivisor : cx_M := (⟨"FoxGeese", "greatestDivisor", "(JJ)J"⟩, prog_1_method_43_code, 7, some .long)
def mq_F_foxKinds : cx_M := (⟨"FoxGeese", "foxKinds", "()I"⟩, prog_1_method_44_code, 5, some .int)
def mq_F_gooseKinds : cx_M := (⟨"FoxGeese", "gooseKinds", "(I)I"⟩, prog_1_method_45_code, 6, some .int)
def mq_F_evenestStep : cx_M := (⟨"FoxGeese", "evenestStep", "(IZ)I"⟩, prog_1_method_46_code, 11, some .int)
def mq_F_playNumber : cx_M := (⟨"FoxGeese", "playNumber", "(LFoxGeese$Board;J)V"⟩, prog_1_method_47_code, 9, none)
def mq_M_in : cx_M := (⟨"FoxGeeseModel", "in", "(JJJ)Z"⟩, prog_8_method_3_code, 6, some .boolean)
def mq_M_has : cx_M := (⟨"FoxGeeseModel", "has", "(II)Z"⟩, prog_8_method_4_code, 2, some .boolean)
def mq_M_bad : cx_M := (⟨"FoxGeeseModel", "bad", "(I)I"⟩, prog_8_method_5_code, 2, some .int)
def mq_M_no : cx_M := (⟨"FoxGeeseModel", "no", "()I"⟩, prog_8_method_6_code, 1, some .int)
def mq_M_full : cx_M := (⟨"FoxGeeseModel", "full", "()I"⟩, prog_8_method_7_code, 1, some .int)
def mq_M_copy : cx_M := (⟨"FoxGeeseModel", "copy", "(III)V"⟩, prog_8_method_8_code, 5, none)
def mq_M_empties : cx_M := (⟨"FoxGeeseModel", "empties", "(I)V"⟩, prog_8_method_9_code, 3, none)
def mq_M_cells : cx_M := (⟨"FoxGeeseModel", "cells", "(I)I"⟩, prog_8_method_10_code, 2, some .int)
def mq_M_isCell : cx_M := (⟨"FoxGeeseModel", "isCell", "(II)Z"⟩, prog_8_method_11_code, 3, some .boolean)
def mq_M_isGoose : cx_M := (⟨"FoxGeeseModel", "isGoose", "(II)Z"⟩, prog_8_method_12_code, 3, some .boolean)
def mq_M_size : cx_M := (⟨"FoxGeeseModel", "size", "(I)I"⟩, prog_8_method_13_code, 1, some .int)
def mq_M_plainFox : cx_M := (⟨"FoxGeeseModel", "plainFox", "(II)Z"⟩, prog_8_method_14_code, 2, some .boolean)
def mq_M_slyFox : cx_M := (⟨"FoxGeeseModel", "slyFox", "(II)Z"⟩, prog_8_method_15_code, 2, some .boolean)
def mq_M_leaperFox : cx_M := (⟨"FoxGeeseModel", "leaperFox", "(IIZ)Z"⟩, prog_8_method_16_code, 3, some .boolean)
def mq_M_mayFox : cx_M := (⟨"FoxGeeseModel", "mayFox", "(IIIIZ)Z"⟩, prog_8_method_17_code, 5, some .boolean)
def mq_M_plainGoose : cx_M := (⟨"FoxGeeseModel", "plainGoose", "(II)Z"⟩, prog_8_method_18_code, 2, some .boolean)
def mq_M_boldGoose : cx_M := (⟨"FoxGeeseModel", "boldGoose", "(II)Z"⟩, prog_8_method_19_code, 2, some .boolean)
def mq_M_shyGoose : cx_M := (⟨"FoxGeeseModel", "shyGoose", "(III)Z"⟩, prog_8_method_20_code, 3, some .boolean)
def mq_M_mayGoose : cx_M := (⟨"FoxGeeseModel", "mayGoose", "(IIII)Z"⟩, prog_8_method_21_code, 4, some .boolean)
def mq_M_gooseAt : cx_M := (⟨"FoxGeeseModel", "gooseAt", "(II)I"⟩, prog_8_method_22_code, 4, some .int)
def mq_M_isFree : cx_M := (⟨"FoxGeeseModel", "isFree", "(II)Z"⟩, prog_8_method_23_code, 3, some .boolean)
def mq_M_gooseBetween : cx_M := (⟨"FoxGeeseModel", "gooseBetween", "(III)I"⟩, prog_8_method_24_code, 6, some .int)
def mq_M_mayGo : cx_M := (⟨"FoxGeeseModel", "mayGo", "(III)Z"⟩, prog_8_method_25_code, 7, some .boolean)
def mq_M_canOf : cx_M := (⟨"FoxGeeseModel", "canOf", "(II)I"⟩, prog_8_method_26_code, 6, some .int)
def mq_M_ones : cx_M := (⟨"FoxGeeseModel", "ones", "(I)I"⟩, prog_8_method_27_code, 3, some .int)
def mq_M_howOf : cx_M := (⟨"FoxGeeseModel", "howOf", "(I)I"⟩, prog_8_method_28_code, 2, some .int)
def mq_M_geeseCan : cx_M := (⟨"FoxGeeseModel", "geeseCan", "(I)Z"⟩, prog_8_method_29_code, 4, some .boolean)
def mq_M_ends : cx_M := (⟨"FoxGeeseModel", "ends", "(I)V"⟩, prog_8_method_30_code, 2, none)
def mq_M_foxGoes : cx_M := (⟨"FoxGeeseModel", "foxGoes", "(II)I"⟩, prog_8_method_31_code, 4, some .int)
def mq_M_gooseGoes : cx_M := (⟨"FoxGeeseModel", "gooseGoes", "(III)V"⟩, prog_8_method_32_code, 4, none)
def mq_M_mayMove : cx_M := (⟨"FoxGeeseModel", "mayMove", "(III)Z"⟩, prog_8_method_33_code, 4, some .boolean)
def mq_M_mayPass : cx_M := (⟨"FoxGeeseModel", "mayPass", "(I)Z"⟩, prog_8_method_34_code, 2, some .boolean)
def mq_M_begins : cx_M := (⟨"FoxGeeseModel", "begins", "(III)V"⟩, prog_8_method_35_code, 4, none)
def mq_M_field : cx_M := (⟨"FoxGeeseModel", "field", "(II)I"⟩, prog_8_method_36_code, 4, some .int)
def mq_M_thicket : cx_M := (⟨"FoxGeeseModel", "thicket", "(I)I"⟩, prog_8_method_37_code, 2, some .int)
def mq_M_fox : cx_M := (⟨"FoxGeeseModel", "fox", "(II)I"⟩, prog_8_method_38_code, 4, some .int)
def mq_M_addsGoose : cx_M := (⟨"FoxGeeseModel", "addsGoose", "(III)V"⟩, prog_8_method_39_code, 4, none)
def mq_M_goose : cx_M := (⟨"FoxGeeseModel", "goose", "(II)I"⟩, prog_8_method_40_code, 3, some .int)
def mq_M_type : cx_M := (⟨"FoxGeeseModel", "type", "(I)I"⟩, prog_8_method_41_code, 2, some .int)
def mq_M_clear : cx_M := (⟨"FoxGeeseModel", "clear", "()I"⟩, prog_8_method_42_code, 2, some .int)
def mq_M_byteAt : cx_M := (⟨"FoxGeeseModel", "byteAt", "(I)I"⟩, prog_8_method_43_code, 2, some .int)
def mq_M_blanks : cx_M := (⟨"FoxGeeseModel", "blanks", "()V"⟩, prog_8_method_44_code, 1, none)
def mq_M_takesWord : cx_M := (⟨"FoxGeeseModel", "takesWord", "()V"⟩, prog_8_method_45_code, 1, none)
def mq_M_isWord : cx_M := (⟨"FoxGeeseModel", "isWord", "(IIIIIII)Z"⟩, prog_8_method_46_code, 9, some .boolean)
def mq_M_isLetter : cx_M := (⟨"FoxGeeseModel", "isLetter", "(III)Z"⟩, prog_8_method_47_code, 4, some .boolean)
def mq_M_wordOf : cx_M := (⟨"FoxGeeseModel", "wordOf", "()I"⟩, prog_8_method_48_code, 1, some .int)
def mq_M_takesNumber : cx_M := (⟨"FoxGeeseModel", "takesNumber", "(II)Z"⟩, prog_8_method_49_code, 3, some .boolean)
def mq_M_takesEnd : cx_M := (⟨"FoxGeeseModel", "takesEnd", "()Z"⟩, prog_8_method_50_code, 1, some .boolean)
def mq_M_readsField : cx_M := (⟨"FoxGeeseModel", "readsField", "()Z"⟩, prog_8_method_51_code, 2, some .boolean)
def mq_M_takesCell : cx_M := (⟨"FoxGeeseModel", "takesCell", "()Z"⟩, prog_8_method_52_code, 1, some .boolean)
def mq_M_readsThicket : cx_M := (⟨"FoxGeeseModel", "readsThicket", "()Z"⟩, prog_8_method_53_code, 1, some .boolean)
def mq_M_readsFox : cx_M := (⟨"FoxGeeseModel", "readsFox", "()Z"⟩, prog_8_method_54_code, 2, some .boolean)
def mq_M_readsGoose : cx_M := (⟨"FoxGeeseModel", "readsGoose", "()Z"⟩, prog_8_method_55_code, 2, some .boolean)
def mq_M_readsGo : cx_M := (⟨"FoxGeeseModel", "readsGo", "()Z"⟩, prog_8_method_56_code, 2, some .boolean)
def mq_M_readsMove : cx_M := (⟨"FoxGeeseModel", "readsMove", "()Z"⟩, prog_8_method_57_code, 2, some .boolean)
def mq_M_readsPass : cx_M := (⟨"FoxGeeseModel", "readsPass", "()Z"⟩, prog_8_method_58_code, 1, some .boolean)
def mq_M_readsItem : cx_M := (⟨"FoxGeeseModel", "readsItem", "(Z)Z"⟩, prog_8_method_59_code, 4, some .boolean)
def mq_M_read : cx_M := (⟨"FoxGeeseModel", "read", "()I"⟩, prog_8_method_60_code, 3, some .int)
def mq_M_minds : cx_M := (⟨"FoxGeeseModel", "minds", "()V"⟩, prog_8_method_61_code, 3, none)
def mq_M_goes : cx_M := (⟨"FoxGeeseModel", "goes", "(I)I"⟩, prog_8_method_62_code, 2, some .int)
def mq_M_moves : cx_M := (⟨"FoxGeeseModel", "moves", "(II)I"⟩, prog_8_method_63_code, 4, some .int)
def mq_M_passes : cx_M := (⟨"FoxGeeseModel", "passes", "()I"⟩, prog_8_method_64_code, 1, some .int)
def mq_M_undo : cx_M := (⟨"FoxGeeseModel", "undo", "()I"⟩, prog_8_method_65_code, 3, some .int)
def mq_M_of : cx_M := (⟨"FoxGeeseModel", "of", "(II)I"⟩, prog_8_method_66_code, 3, some .int)
def mq_M_can : cx_M := (⟨"FoxGeeseModel", "can", "(I)I"⟩, prog_8_method_67_code, 2, some .int)
def mq_M_row : cx_M := (⟨"FoxGeeseModel", "row", "(I)I"⟩, prog_8_method_68_code, 1, some .int)
def mq_M_nextMove : cx_M := (⟨"FoxGeeseModel", "nextMove", "(II)I"⟩, prog_8_method_69_code, 6, some .int)
def mq_M_does : cx_M := (⟨"FoxGeeseModel", "does", "(II)V"⟩, prog_8_method_70_code, 4, none)
def mq_M_worthOf : cx_M := (⟨"FoxGeeseModel", "worthOf", "(I)I"⟩, prog_8_method_71_code, 8, some .int)
def mq_M_worth : cx_M := (⟨"FoxGeeseModel", "worth", "(I)I"⟩, prog_8_method_72_code, 2, some .int)
def mq_M_best : cx_M := (⟨"FoxGeeseModel", "best", "(I)I"⟩, prog_8_method_73_code, 3, some .int)
def mq_M_few : cx_M := (⟨"FoxGeeseModel", "few", "()I"⟩, prog_8_method_74_code, 6, some .int)
def mq_M_stepsOf : cx_M := (⟨"FoxGeeseModel", "stepsOf", "(I)I"⟩, prog_8_method_75_code, 5, some .int)
def mq_M_told : cx_M := (⟨"FoxGeeseModel", "told", "(JJ)I"⟩, prog_8_method_76_code, 11, some .int)
def mq_M_luckOf : cx_M := (⟨"FoxGeeseModel", "luckOf", "(I)J"⟩, prog_8_method_77_code, 12, some .long)
def mq_M_luck : cx_M := (⟨"FoxGeeseModel", "luck", "(I)I"⟩, prog_8_method_78_code, 5, some .int)
def mq_M_keeps : cx_M := (⟨"FoxGeeseModel", "keeps", "(IIIIII)V"⟩, prog_8_method_79_code, 7, none)
def mq_M_isStep : cx_M := (⟨"FoxGeeseModel", "isStep", "(III)Z"⟩, prog_8_method_80_code, 3, some .boolean)
def mq_M_note : cx_M := (⟨"FoxGeeseModel", "note", "(IIIII)I"⟩, prog_8_method_81_code, 6, some .int)
def mq_M_mark : cx_M := (⟨"FoxGeeseModel", "mark", "(IIIII)I"⟩, prog_8_method_82_code, 6, some .int)
def mq_M_forget : cx_M := (⟨"FoxGeeseModel", "forget", "(I)I"⟩, prog_8_method_83_code, 4, some .int)
def mq_M_is : cx_M := (⟨"FoxGeeseModel", "is", "()I"⟩, prog_8_method_84_code, 5, some .int)
def mq_M_look : cx_M := (⟨"FoxGeeseModel", "look", "()I"⟩, prog_8_method_85_code, 10, some .int)
def mq_M_whatOf : cx_M := (⟨"FoxGeeseModel", "whatOf", "(I)I"⟩, prog_8_method_86_code, 6, some .int)
def mq_M_kinds : cx_M := (⟨"FoxGeeseModel", "kinds", "(I)I"⟩, prog_8_method_87_code, 2, some .int)
def mq_M_ask : cx_M := (⟨"FoxGeeseModel", "ask", "(I)I"⟩, prog_8_method_88_code, 10, some .int)
def mq_M_evenings : cx_M := (⟨"FoxGeeseModel", "evenings", "(II)I"⟩, prog_8_method_89_code, 9, some .int)
def mq_M_part : cx_M := (⟨"FoxGeeseModel", "part", "(I)J"⟩, prog_8_method_90_code, 2, some .long)
def mq_M_image : cx_M := (⟨"FoxGeeseModel", "image", "(I)I"⟩, prog_8_method_91_code, 2, some .int)
def mq_M_from : cx_M := (⟨"FoxGeeseModel", "from", "(I)I"⟩, prog_8_method_92_code, 2, some .int)
def mq_M_status : cx_M := (⟨"FoxGeeseModel", "status", "(I)I"⟩, prog_8_method_93_code, 2, some .int)
def mq_M_eaten : cx_M := (⟨"FoxGeeseModel", "eaten", "()I"⟩, prog_8_method_94_code, 3, some .int)
def mq_M_countOf : cx_M := (⟨"FoxGeeseModel", "countOf", "(I)I"⟩, prog_8_method_95_code, 2, some .int)
def mq_M_count : cx_M := (⟨"FoxGeeseModel", "count", "(I)I"⟩, prog_8_method_96_code, 2, some .int)
def mq_M_mix : cx_M := (⟨"FoxGeeseModel", "mix", "(J)V"⟩, prog_8_method_97_code, 3, none)
def mq_M_mixes : cx_M := (⟨"FoxGeeseModel", "mixes", "(II)V"⟩, prog_8_method_98_code, 4, none)
def mq_M_digest : cx_M := (⟨"FoxGeeseModel", "digest", "()J"⟩, prog_8_method_99_code, 2, some .long)
def cx_mtL : List cx_M := [mq_J_bitCount, mq_J_max, mq_J_length, mq_J_charAt, mq_J_coder, mq_J_isLatin1, mq_J_checkIndex, mq_JL_charAt, mq_JP_checkIndex, mq_K_foxMay, mq_K_gooseMay, mq_K_foxesThatMay, mq_K_geeseThatMay, mq_T_add, mq_T_at, mq_T_copyFrom, mq_T_digestFrom, mq_B_begin, mq_B_copyFrom, mq_B_hasCell, mq_B_isFree, mq_B_isFreeForFox, mq_B_isGoose, mq_B_isGooseAlive, mq_B_kindOf, mq_B_cellOf, mq_B_eaten, mq_B_gooseBits, mq_B_firstMover, mq_B_lastMover, mq_B_reach, mq_B_gooseReach, mq_B_open, mq_B_foxReach, mq_B_walkOn, mq_B_halfWay, mq_B_isHome, mq_B_outcome, mq_B_countMoves, mq_B_mayPass, mq_B_mayMove, mq_B_step, mq_B_eatAt, mq_B_endMove, mq_G_begin, mq_G_copyFrom, mq_G_plant, mq_G_putFox, mq_G_addGoose, mq_G_remember, mq_G_takeBack, mq_R_addByte, mq_R_readText, mq_R_readParts, mq_R_readField, mq_R_readThicket, mq_R_readFox, mq_R_readGoose, mq_R_readStep, mq_R_nextGoose, mq_R_readPass, mq_R_nextNumber, mq_R_nextToken, mq_R_itemNamed, mq_R_tokenIs, mq_R_byteAt, mq_R_isLetter, mq_R_isFigure, mq_F_field, mq_F_thicket, mq_F_fox, mq_F_goose, mq_F_type, mq_F_clear, mq_F_read, mq_F_goes, mq_F_moves, mq_F_passes, mq_F_undo, mq_F_of, mq_F_can, mq_F_worth, mq_F_best, mq_F_few, mq_F_luck, mq_F_note, mq_F_mark, mq_F_forget, mq_F_is, mq_F_look, mq_F_kinds, mq_F_ask, mq_F_evenings, mq_F_part, mq_F_image, mq_F_from, mq_F_status, mq_F_count, mq_F_digest, mq_F_refuse, mq_F_isWithin, mq_F_isSide, mq_F_isKind, mq_F_isToldStep, mq_F_howMany, mq_F_worthBehind, mq_F_homeShares, mq_F_power, mq_F_keepFraction, mq_F_greatestDivisor, mq_F_foxKinds, mq_F_gooseKinds, mq_F_evenestStep, mq_F_playNumber, mq_M_in, mq_M_has, mq_M_bad, mq_M_no, mq_M_full, mq_M_copy, mq_M_empties, mq_M_cells, mq_M_isCell, mq_M_isGoose, mq_M_size, mq_M_plainFox, mq_M_slyFox, mq_M_leaperFox, mq_M_mayFox, mq_M_plainGoose, mq_M_boldGoose, mq_M_shyGoose, mq_M_mayGoose, mq_M_gooseAt, mq_M_isFree, mq_M_gooseBetween, mq_M_mayGo, mq_M_canOf, mq_M_ones, mq_M_howOf, mq_M_geeseCan, mq_M_ends, mq_M_foxGoes, mq_M_gooseGoes, mq_M_mayMove, mq_M_mayPass, mq_M_begins, mq_M_field, mq_M_thicket, mq_M_fox, mq_M_addsGoose, mq_M_goose, mq_M_type, mq_M_clear, mq_M_byteAt, mq_M_blanks, mq_M_takesWord, mq_M_isWord, mq_M_isLetter, mq_M_wordOf, mq_M_takesNumber, mq_M_takesEnd, mq_M_readsField, mq_M_takesCell, mq_M_readsThicket, mq_M_readsFox, mq_M_readsGoose, mq_M_readsGo, mq_M_readsMove, mq_M_readsPass, mq_M_readsItem, mq_M_read, mq_M_minds, mq_M_goes, mq_M_moves, mq_M_passes, mq_M_undo, mq_M_of, mq_M_can, mq_M_row, mq_M_nextMove, mq_M_does, mq_M_worthOf, mq_M_worth, mq_M_best, mq_M_few, mq_M_stepsOf, mq_M_told, mq_M_luckOf, mq_M_luck, mq_M_keeps, mq_M_isStep, mq_M_note, mq_M_mark, mq_M_forget, mq_M_is, mq_M_look, mq_M_whatOf, mq_M_kinds, mq_M_ask, mq_M_evenings, mq_M_part, mq_M_image, mq_M_from, mq_M_status, mq_M_eaten, mq_M_countOf, mq_M_count, mq_M_mix, mq_M_mixes, mq_M_digest]
def cx_mt (y : Nat) : cx_M := cx_mtL.getD y mq_J_bitCount
def cx_mxL : List Nat := [1, 2, 1, 2, 1, 1, 2, 2, 3, 11, 9, 6, 5, 7, 4, 2, 4, 3, 3, 2, 2, 2, 2, 2, 2, 2, 1, 3, 1, 1, 2, 9, 1, 14, 5, 5, 1, 1, 4, 2, 4, 4, 3, 1, 3, 2, 2, 3, 4, 3, 3, 2, 3, 2, 3, 2, 3, 3, 3, 2, 1, 3, 3, 1, 3, 2, 1, 1, 4, 3, 5, 4, 2, 2, 2, 2, 5, 1, 1, 4, 2, 2, 2, 5, 2, 6, 6, 4, 1, 1, 2, 2, 7, 2, 2, 2, 2, 2, 5, 3, 3, 1, 1, 4, 3, 15, 9, 6, 7, 7, 5, 6, 11, 9, 6, 2, 2, 1, 1, 5, 3, 2, 3, 3, 1, 2, 2, 3, 5, 2, 2, 3, 4, 4, 3, 6, 7, 6, 3, 2, 4, 2, 4, 4, 4, 2, 4, 4, 2, 4, 4, 3, 2, 2, 2, 1, 1, 9, 4, 1, 3, 1, 2, 1, 1, 2, 2, 2, 2, 1, 4, 3, 3, 2, 4, 1, 3, 3, 2, 1, 6, 4, 8, 2, 3, 6, 5, 11, 12, 5, 7, 3, 6, 6, 4, 5, 10, 6, 2, 10, 9, 2, 2, 2, 2, 3, 2, 2, 3, 4, 2]
def cx_mx (y : Nat) : Nat := cx_mxL.getD y 1
set_option maxRecDepth 20000 in
theorem ok_J_bitCount : cx_ok mq_J_bitCount 1 := ⟨cx_mem 288 rfl rfl, cx_mem 64 rfl rfl, ⟨by decide +kernel, by decide +kernel, by decide +kernel⟩, by decide⟩
set_option maxRecDepth 20000 in
theorem ok_J_max : cx_ok mq_J_max 2 := ⟨cx_mem 464 rfl rfl, cx_mem 69 rfl rfl, ⟨by decide +kernel, by decide +kernel, by decide +kernel⟩, by decide⟩
set_option maxRecDepth 20000 in
theorem ok_J_length : cx_ok mq_J_length 0 := ⟨cx_mem 359 rfl rfl, cx_mem 65 rfl rfl, ⟨by decide +kernel, by decide +kernel, by decide +kernel⟩, by decide⟩
set_option maxRecDepth 20000 in
theorem ok_J_charAt : cx_ok mq_J_charAt 1 := ⟨cx_mem 369 rfl rfl, cx_mem 65 rfl rfl, ⟨by decide +kernel, by decide +kernel, by decide +kernel⟩, by decide⟩
set_option maxRecDepth 20000 in
theorem ok_J_coder : cx_ok mq_J_coder 0 := ⟨cx_mem 363 rfl rfl, cx_mem 65 rfl rfl, ⟨by decide +kernel, by decide +kernel, by decide +kernel⟩, by decide⟩
set_option maxRecDepth 20000 in
theorem ok_J_isLatin1 : cx_ok mq_J_isLatin1 0 := ⟨cx_mem 373 rfl rfl, cx_mem 65 rfl rfl, ⟨by decide +kernel, by decide +kernel, by decide +kernel⟩, by decide⟩
set_option maxRecDepth 20000 in
theorem ok_J_checkIndex : cx_ok mq_J_checkIndex 2 := ⟨cx_mem 379 rfl rfl, cx_mem 65 rfl rfl, ⟨by decide +kernel, by decide +kernel, by decide +kernel⟩, by decide⟩
set_option maxRecDepth 20000 in
theorem ok_JL_charAt : cx_ok mq_JL_charAt 2 := ⟨cx_mem 376 rfl rfl, cx_mem 66 rfl rfl, ⟨by decide +kernel, by decide +kernel, by decide +kernel⟩, by decide⟩
set_option maxRecDepth 20000 in
theorem ok_JP_checkIndex : cx_ok mq_JP_checkIndex 3 := ⟨cx_mem 384 rfl rfl, cx_mem 67 rfl rfl, ⟨by decide +kernel, by decide +kernel, by decide +kernel⟩, by decide⟩
set_option maxRecDepth 20000 in
theorem ok_K_foxMay : cx_ok mq_K_foxMay 5 := ⟨cx_mem 471 rfl rfl, cx_mem 70 rfl rfl, ⟨by decide +kernel, by decide +kernel, by decide +kernel⟩, by decide⟩
set_option maxRecDepth 20000 in
theorem ok_K_gooseMay : cx_ok mq_K_gooseMay 4 := ⟨cx_mem 486 rfl rfl, cx_mem 70 rfl rfl, ⟨by decide +kernel, by decide +kernel, by decide +kernel⟩, by decide⟩
set_option maxRecDepth 20000 in
theorem ok_K_foxesThatMay : cx_ok mq_K_foxesThatMay 4 := ⟨cx_mem 667 rfl rfl, cx_mem 70 rfl rfl, ⟨by decide +kernel, by decide +kernel, by decide +kernel⟩, by decide⟩
set_option maxRecDepth 20000 in
theorem ok_K_geeseThatMay : cx_ok mq_K_geeseThatMay 3 := ⟨cx_mem 678 rfl rfl, cx_mem 70 rfl rfl, ⟨by decide +kernel, by decide +kernel, by decide +kernel⟩, by decide⟩
set_option maxRecDepth 20000 in
theorem ok_T_add : cx_ok mq_T_add 5 := ⟨cx_mem 644 rfl rfl, cx_mem 61 rfl rfl, ⟨by decide +kernel, by decide +kernel, by decide +kernel⟩, by decide⟩
set_option maxRecDepth 20000 in
theorem ok_T_at : cx_ok mq_T_at 2 := ⟨cx_mem 664 rfl rfl, cx_mem 61 rfl rfl, ⟨by decide +kernel, by decide +kernel, by decide +kernel⟩, by decide⟩
set_option maxRecDepth 20000 in
theorem ok_T_copyFrom : cx_ok mq_T_copyFrom 1 := ⟨cx_mem 528 rfl rfl, cx_mem 61 rfl rfl, ⟨by decide +kernel, by decide +kernel, by decide +kernel⟩, by decide⟩
set_option maxRecDepth 20000 in
theorem ok_T_digestFrom : cx_ok mq_T_digestFrom 1 := ⟨cx_mem 748 rfl rfl, cx_mem 61 rfl rfl, ⟨by decide +kernel, by decide +kernel, by decide +kernel⟩, by decide⟩
set_option maxRecDepth 20000 in
theorem ok_B_begin : cx_ok mq_B_begin 2 := ⟨cx_mem 95 rfl rfl, cx_mem 60 rfl rfl, ⟨by decide +kernel, by decide +kernel, by decide +kernel⟩, by decide⟩
set_option maxRecDepth 20000 in
theorem ok_B_copyFrom : cx_ok mq_B_copyFrom 1 := ⟨cx_mem 524 rfl rfl, cx_mem 60 rfl rfl, ⟨by decide +kernel, by decide +kernel, by decide +kernel⟩, by decide⟩
set_option maxRecDepth 20000 in
theorem ok_B_hasCell : cx_ok mq_B_hasCell 1 := ⟨cx_mem 269 rfl rfl, cx_mem 60 rfl rfl, ⟨by decide +kernel, by decide +kernel, by decide +kernel⟩, by decide⟩
set_option maxRecDepth 20000 in
theorem ok_B_isFree : cx_ok mq_B_isFree 1 := ⟨cx_mem 273 rfl rfl, cx_mem 60 rfl rfl, ⟨by decide +kernel, by decide +kernel, by decide +kernel⟩, by decide⟩
set_option maxRecDepth 20000 in
theorem ok_B_isFreeForFox : cx_ok mq_B_isFreeForFox 1 := ⟨cx_mem 277 rfl rfl, cx_mem 60 rfl rfl, ⟨by decide +kernel, by decide +kernel, by decide +kernel⟩, by decide⟩
set_option maxRecDepth 20000 in
theorem ok_B_isGoose : cx_ok mq_B_isGoose 1 := ⟨cx_mem 498 rfl rfl, cx_mem 60 rfl rfl, ⟨by decide +kernel, by decide +kernel, by decide +kernel⟩, by decide⟩
set_option maxRecDepth 20000 in
theorem ok_B_isGooseAlive : cx_ok mq_B_isGooseAlive 1 := ⟨cx_mem 483 rfl rfl, cx_mem 60 rfl rfl, ⟨by decide +kernel, by decide +kernel, by decide +kernel⟩, by decide⟩
set_option maxRecDepth 20000 in
theorem ok_B_kindOf : cx_ok mq_B_kindOf 1 := ⟨cx_mem 575 rfl rfl, cx_mem 60 rfl rfl, ⟨by decide +kernel, by decide +kernel, by decide +kernel⟩, by decide⟩
set_option maxRecDepth 20000 in
theorem ok_B_cellOf : cx_ok mq_B_cellOf 1 := ⟨cx_mem 552 rfl rfl, cx_mem 60 rfl rfl, ⟨by decide +kernel, by decide +kernel, by decide +kernel⟩, by decide⟩
set_option maxRecDepth 20000 in
theorem ok_B_eaten : cx_ok mq_B_eaten 0 := ⟨cx_mem 738 rfl rfl, cx_mem 60 rfl rfl, ⟨by decide +kernel, by decide +kernel, by decide +kernel⟩, by decide⟩
set_option maxRecDepth 20000 in
theorem ok_B_gooseBits : cx_ok mq_B_gooseBits 0 := ⟨cx_mem 281 rfl rfl, cx_mem 60 rfl rfl, ⟨by decide +kernel, by decide +kernel, by decide +kernel⟩, by decide⟩
set_option maxRecDepth 20000 in
theorem ok_B_firstMover : cx_ok mq_B_firstMover 0 := ⟨cx_mem 601 rfl rfl, cx_mem 60 rfl rfl, ⟨by decide +kernel, by decide +kernel, by decide +kernel⟩, by decide⟩
set_option maxRecDepth 20000 in
theorem ok_B_lastMover : cx_ok mq_B_lastMover 0 := ⟨cx_mem 597 rfl rfl, cx_mem 60 rfl rfl, ⟨by decide +kernel, by decide +kernel, by decide +kernel⟩, by decide⟩
set_option maxRecDepth 20000 in
theorem ok_B_reach : cx_ok mq_B_reach 1 := ⟨cx_mem 475 rfl rfl, cx_mem 60 rfl rfl, ⟨by decide +kernel, by decide +kernel, by decide +kernel⟩, by decide⟩
set_option maxRecDepth 20000 in
theorem ok_B_gooseReach : cx_ok mq_B_gooseReach 1 := ⟨cx_mem 479 rfl rfl, cx_mem 60 rfl rfl, ⟨by decide +kernel, by decide +kernel, by decide +kernel⟩, by decide⟩
set_option maxRecDepth 20000 in
theorem ok_B_open : cx_ok mq_B_open 0 := ⟨cx_mem 592 rfl rfl, cx_mem 60 rfl rfl, ⟨by decide +kernel, by decide +kernel, by decide +kernel⟩, by decide⟩
set_option maxRecDepth 20000 in
theorem ok_B_foxReach : cx_ok mq_B_foxReach 3 := ⟨cx_mem 461 rfl rfl, cx_mem 60 rfl rfl, ⟨by decide +kernel, by decide +kernel, by decide +kernel⟩, by decide⟩
set_option maxRecDepth 20000 in
theorem ok_B_walkOn : cx_ok mq_B_walkOn 2 := ⟨cx_mem 614 rfl rfl, cx_mem 60 rfl rfl, ⟨by decide +kernel, by decide +kernel, by decide +kernel⟩, by decide⟩
set_option maxRecDepth 20000 in
theorem ok_B_halfWay : cx_ok mq_B_halfWay 2 := ⟨cx_mem 468 rfl rfl, cx_mem 60 rfl rfl, ⟨by decide +kernel, by decide +kernel, by decide +kernel⟩, by decide⟩
set_option maxRecDepth 20000 in
theorem ok_B_isHome : cx_ok mq_B_isHome 0 := ⟨cx_mem 457 rfl rfl, cx_mem 60 rfl rfl, ⟨by decide +kernel, by decide +kernel, by decide +kernel⟩, by decide⟩
set_option maxRecDepth 20000 in
theorem ok_B_outcome : cx_ok mq_B_outcome 0 := ⟨cx_mem 453 rfl rfl, cx_mem 60 rfl rfl, ⟨by decide +kernel, by decide +kernel, by decide +kernel⟩, by decide⟩
set_option maxRecDepth 20000 in
theorem ok_B_countMoves : cx_ok mq_B_countMoves 0 := ⟨cx_mem 708 rfl rfl, cx_mem 60 rfl rfl, ⟨by decide +kernel, by decide +kernel, by decide +kernel⟩, by decide⟩
set_option maxRecDepth 20000 in
theorem ok_B_mayPass : cx_ok mq_B_mayPass 0 := ⟨cx_mem 515 rfl rfl, cx_mem 60 rfl rfl, ⟨by decide +kernel, by decide +kernel, by decide +kernel⟩, by decide⟩
set_option maxRecDepth 20000 in
theorem ok_B_mayMove : cx_ok mq_B_mayMove 2 := ⟨cx_mem 449 rfl rfl, cx_mem 60 rfl rfl, ⟨by decide +kernel, by decide +kernel, by decide +kernel⟩, by decide⟩
set_option maxRecDepth 20000 in
theorem ok_B_step : cx_ok mq_B_step 2 := ⟨cx_mem 490 rfl rfl, cx_mem 60 rfl rfl, ⟨by decide +kernel, by decide +kernel, by decide +kernel⟩, by decide⟩
set_option maxRecDepth 20000 in
theorem ok_B_eatAt : cx_ok mq_B_eatAt 1 := ⟨cx_mem 494 rfl rfl, cx_mem 60 rfl rfl, ⟨by decide +kernel, by decide +kernel, by decide +kernel⟩, by decide⟩
set_option maxRecDepth 20000 in
theorem ok_B_endMove : cx_ok mq_B_endMove 0 := ⟨cx_mem 502 rfl rfl, cx_mem 60 rfl rfl, ⟨by decide +kernel, by decide +kernel, by decide +kernel⟩, by decide⟩
set_option maxRecDepth 20000 in
theorem ok_G_begin : cx_ok mq_G_begin 2 := ⟨cx_mem 260 rfl rfl, cx_mem 59 rfl rfl, ⟨by decide +kernel, by decide +kernel, by decide +kernel⟩, by decide⟩
set_option maxRecDepth 20000 in
theorem ok_G_copyFrom : cx_ok mq_G_copyFrom 1 := ⟨cx_mem 520 rfl rfl, cx_mem 59 rfl rfl, ⟨by decide +kernel, by decide +kernel, by decide +kernel⟩, by decide⟩
set_option maxRecDepth 20000 in
theorem ok_G_plant : cx_ok mq_G_plant 1 := ⟨cx_mem 285 rfl rfl, cx_mem 59 rfl rfl, ⟨by decide +kernel, by decide +kernel, by decide +kernel⟩, by decide⟩
set_option maxRecDepth 20000 in
theorem ok_G_putFox : cx_ok mq_G_putFox 2 := ⟨cx_mem 303 rfl rfl, cx_mem 59 rfl rfl, ⟨by decide +kernel, by decide +kernel, by decide +kernel⟩, by decide⟩
set_option maxRecDepth 20000 in
theorem ok_G_addGoose : cx_ok mq_G_addGoose 2 := ⟨cx_mem 311 rfl rfl, cx_mem 59 rfl rfl, ⟨by decide +kernel, by decide +kernel, by decide +kernel⟩, by decide⟩
set_option maxRecDepth 20000 in
theorem ok_G_remember : cx_ok mq_G_remember 0 := ⟨cx_mem 542 rfl rfl, cx_mem 59 rfl rfl, ⟨by decide +kernel, by decide +kernel, by decide +kernel⟩, by decide⟩
set_option maxRecDepth 20000 in
theorem ok_G_takeBack : cx_ok mq_G_takeBack 0 := ⟨cx_mem 566 rfl rfl, cx_mem 59 rfl rfl, ⟨by decide +kernel, by decide +kernel, by decide +kernel⟩, by decide⟩
set_option maxRecDepth 20000 in
theorem ok_R_addByte : cx_ok mq_R_addByte 1 := ⟨cx_mem 319 rfl rfl, cx_mem 62 rfl rfl, ⟨by decide +kernel, by decide +kernel, by decide +kernel⟩, by decide⟩
set_option maxRecDepth 20000 in
theorem ok_R_readText : cx_ok mq_R_readText 0 := ⟨cx_mem 331 rfl rfl, cx_mem 62 rfl rfl, ⟨by decide +kernel, by decide +kernel, by decide +kernel⟩, by decide⟩
set_option maxRecDepth 20000 in
theorem ok_R_readParts : cx_ok mq_R_readParts 1 := ⟨cx_mem 413 rfl rfl, cx_mem 62 rfl rfl, ⟨by decide +kernel, by decide +kernel, by decide +kernel⟩, by decide⟩
set_option maxRecDepth 20000 in
theorem ok_R_readField : cx_ok mq_R_readField 0 := ⟨cx_mem 417 rfl rfl, cx_mem 62 rfl rfl, ⟨by decide +kernel, by decide +kernel, by decide +kernel⟩, by decide⟩
set_option maxRecDepth 20000 in
theorem ok_R_readThicket : cx_ok mq_R_readThicket 0 := ⟨cx_mem 426 rfl rfl, cx_mem 62 rfl rfl, ⟨by decide +kernel, by decide +kernel, by decide +kernel⟩, by decide⟩
set_option maxRecDepth 20000 in
theorem ok_R_readFox : cx_ok mq_R_readFox 0 := ⟨cx_mem 433 rfl rfl, cx_mem 62 rfl rfl, ⟨by decide +kernel, by decide +kernel, by decide +kernel⟩, by decide⟩
set_option maxRecDepth 20000 in
theorem ok_R_readGoose : cx_ok mq_R_readGoose 0 := ⟨cx_mem 440 rfl rfl, cx_mem 62 rfl rfl, ⟨by decide +kernel, by decide +kernel, by decide +kernel⟩, by decide⟩
set_option maxRecDepth 20000 in
theorem ok_R_readStep : cx_ok mq_R_readStep 1 := ⟨cx_mem 445 rfl rfl, cx_mem 62 rfl rfl, ⟨by decide +kernel, by decide +kernel, by decide +kernel⟩, by decide⟩
set_option maxRecDepth 20000 in
theorem ok_R_nextGoose : cx_ok mq_R_nextGoose 0 := ⟨cx_mem 506 rfl rfl, cx_mem 62 rfl rfl, ⟨by decide +kernel, by decide +kernel, by decide +kernel⟩, by decide⟩
set_option maxRecDepth 20000 in
theorem ok_R_readPass : cx_ok mq_R_readPass 0 := ⟨cx_mem 511 rfl rfl, cx_mem 62 rfl rfl, ⟨by decide +kernel, by decide +kernel, by decide +kernel⟩, by decide⟩
set_option maxRecDepth 20000 in
theorem ok_R_nextNumber : cx_ok mq_R_nextNumber 0 := ⟨cx_mem 421 rfl rfl, cx_mem 62 rfl rfl, ⟨by decide +kernel, by decide +kernel, by decide +kernel⟩, by decide⟩
set_option maxRecDepth 20000 in
theorem ok_R_nextToken : cx_ok mq_R_nextToken 0 := ⟨cx_mem 336 rfl rfl, cx_mem 62 rfl rfl, ⟨by decide +kernel, by decide +kernel, by decide +kernel⟩, by decide⟩
set_option maxRecDepth 20000 in
theorem ok_R_itemNamed : cx_ok mq_R_itemNamed 0 := ⟨cx_mem 350 rfl rfl, cx_mem 62 rfl rfl, ⟨by decide +kernel, by decide +kernel, by decide +kernel⟩, by decide⟩
set_option maxRecDepth 20000 in
theorem ok_R_tokenIs : cx_ok mq_R_tokenIs 1 := ⟨cx_mem 355 rfl rfl, cx_mem 62 rfl rfl, ⟨by decide +kernel, by decide +kernel, by decide +kernel⟩, by decide⟩
set_option maxRecDepth 20000 in
theorem ok_R_byteAt : cx_ok mq_R_byteAt 1 := ⟨cx_mem 340 rfl rfl, cx_mem 62 rfl rfl, ⟨by decide +kernel, by decide +kernel, by decide +kernel⟩, by decide⟩
set_option maxRecDepth 20000 in
theorem ok_R_isLetter : cx_ok mq_R_isLetter 1 := ⟨cx_mem 343 rfl rfl, cx_mem 62 rfl rfl, ⟨by decide +kernel, by decide +kernel, by decide +kernel⟩, by decide⟩
set_option maxRecDepth 20000 in
theorem ok_R_isFigure : cx_ok mq_R_isFigure 1 := ⟨cx_mem 346 rfl rfl, cx_mem 62 rfl rfl, ⟨by decide +kernel, by decide +kernel, by decide +kernel⟩, by decide⟩
set_option maxRecDepth 20000 in
theorem ok_F_field : cx_ok mq_F_field 2 := ⟨cx_mem 246 rfl rfl, cx_mem 58 rfl rfl, ⟨by decide +kernel, by decide +kernel, by decide +kernel⟩, by decide⟩
set_option maxRecDepth 20000 in
theorem ok_F_thicket : cx_ok mq_F_thicket 1 := ⟨cx_mem 265 rfl rfl, cx_mem 58 rfl rfl, ⟨by decide +kernel, by decide +kernel, by decide +kernel⟩, by decide⟩
set_option maxRecDepth 20000 in
theorem ok_F_fox : cx_ok mq_F_fox 2 := ⟨cx_mem 295 rfl rfl, cx_mem 58 rfl rfl, ⟨by decide +kernel, by decide +kernel, by decide +kernel⟩, by decide⟩
set_option maxRecDepth 20000 in
theorem ok_F_goose : cx_ok mq_F_goose 2 := ⟨cx_mem 307 rfl rfl, cx_mem 58 rfl rfl, ⟨by decide +kernel, by decide +kernel, by decide +kernel⟩, by decide⟩
set_option maxRecDepth 20000 in
theorem ok_F_type : cx_ok mq_F_type 1 := ⟨cx_mem 315 rfl rfl, cx_mem 58 rfl rfl, ⟨by decide +kernel, by decide +kernel, by decide +kernel⟩, by decide⟩
set_option maxRecDepth 20000 in
theorem ok_F_clear : cx_ok mq_F_clear 0 := ⟨cx_mem 323 rfl rfl, cx_mem 58 rfl rfl, ⟨by decide +kernel, by decide +kernel, by decide +kernel⟩, by decide⟩
set_option maxRecDepth 20000 in
theorem ok_F_read : cx_ok mq_F_read 0 := ⟨cx_mem 327 rfl rfl, cx_mem 58 rfl rfl, ⟨by decide +kernel, by decide +kernel, by decide +kernel⟩, by decide⟩
set_option maxRecDepth 20000 in
theorem ok_F_goes : cx_ok mq_F_goes 1 := ⟨cx_mem 537 rfl rfl, cx_mem 58 rfl rfl, ⟨by decide +kernel, by decide +kernel, by decide +kernel⟩, by decide⟩
set_option maxRecDepth 20000 in
theorem ok_F_moves : cx_ok mq_F_moves 2 := ⟨cx_mem 547 rfl rfl, cx_mem 58 rfl rfl, ⟨by decide +kernel, by decide +kernel, by decide +kernel⟩, by decide⟩
set_option maxRecDepth 20000 in
theorem ok_F_passes : cx_ok mq_F_passes 0 := ⟨cx_mem 556 rfl rfl, cx_mem 58 rfl rfl, ⟨by decide +kernel, by decide +kernel, by decide +kernel⟩, by decide⟩
set_option maxRecDepth 20000 in
theorem ok_F_undo : cx_ok mq_F_undo 0 := ⟨cx_mem 562 rfl rfl, cx_mem 58 rfl rfl, ⟨by decide +kernel, by decide +kernel, by decide +kernel⟩, by decide⟩
set_option maxRecDepth 20000 in
theorem ok_F_of : cx_ok mq_F_of 2 := ⟨cx_mem 570 rfl rfl, cx_mem 58 rfl rfl, ⟨by decide +kernel, by decide +kernel, by decide +kernel⟩, by decide⟩
set_option maxRecDepth 20000 in
theorem ok_F_can : cx_ok mq_F_can 1 := ⟨cx_mem 579 rfl rfl, cx_mem 58 rfl rfl, ⟨by decide +kernel, by decide +kernel, by decide +kernel⟩, by decide⟩
set_option maxRecDepth 20000 in
theorem ok_F_worth : cx_ok mq_F_worth 1 := ⟨cx_mem 584 rfl rfl, cx_mem 58 rfl rfl, ⟨by decide +kernel, by decide +kernel, by decide +kernel⟩, by decide⟩
set_option maxRecDepth 20000 in
theorem ok_F_best : cx_ok mq_F_best 1 := ⟨cx_mem 606 rfl rfl, cx_mem 58 rfl rfl, ⟨by decide +kernel, by decide +kernel, by decide +kernel⟩, by decide⟩
set_option maxRecDepth 20000 in
theorem ok_F_few : cx_ok mq_F_few 0 := ⟨cx_mem 610 rfl rfl, cx_mem 58 rfl rfl, ⟨by decide +kernel, by decide +kernel, by decide +kernel⟩, by decide⟩
set_option maxRecDepth 20000 in
theorem ok_F_luck : cx_ok mq_F_luck 1 := ⟨cx_mem 618 rfl rfl, cx_mem 58 rfl rfl, ⟨by decide +kernel, by decide +kernel, by decide +kernel⟩, by decide⟩
set_option maxRecDepth 20000 in
theorem ok_F_note : cx_ok mq_F_note 5 := ⟨cx_mem 637 rfl rfl, cx_mem 58 rfl rfl, ⟨by decide +kernel, by decide +kernel, by decide +kernel⟩, by decide⟩
set_option maxRecDepth 20000 in
theorem ok_F_mark : cx_ok mq_F_mark 5 := ⟨cx_mem 648 rfl rfl, cx_mem 58 rfl rfl, ⟨by decide +kernel, by decide +kernel, by decide +kernel⟩, by decide⟩
set_option maxRecDepth 20000 in
theorem ok_F_forget : cx_ok mq_F_forget 1 := ⟨cx_mem 652 rfl rfl, cx_mem 58 rfl rfl, ⟨by decide +kernel, by decide +kernel, by decide +kernel⟩, by decide⟩
set_option maxRecDepth 20000 in
theorem ok_F_is : cx_ok mq_F_is 0 := ⟨cx_mem 656 rfl rfl, cx_mem 58 rfl rfl, ⟨by decide +kernel, by decide +kernel, by decide +kernel⟩, by decide⟩
set_option maxRecDepth 20000 in
theorem ok_F_look : cx_ok mq_F_look 0 := ⟨cx_mem 672 rfl rfl, cx_mem 58 rfl rfl, ⟨by decide +kernel, by decide +kernel, by decide +kernel⟩, by decide⟩
set_option maxRecDepth 20000 in
theorem ok_F_kinds : cx_ok mq_F_kinds 1 := ⟨cx_mem 684 rfl rfl, cx_mem 58 rfl rfl, ⟨by decide +kernel, by decide +kernel, by decide +kernel⟩, by decide⟩
set_option maxRecDepth 20000 in
theorem ok_F_ask : cx_ok mq_F_ask 1 := ⟨cx_mem 692 rfl rfl, cx_mem 58 rfl rfl, ⟨by decide +kernel, by decide +kernel, by decide +kernel⟩, by decide⟩
set_option maxRecDepth 20000 in
theorem ok_F_evenings : cx_ok mq_F_evenings 2 := ⟨cx_mem 696 rfl rfl, cx_mem 58 rfl rfl, ⟨by decide +kernel, by decide +kernel, by decide +kernel⟩, by decide⟩
set_option maxRecDepth 20000 in
theorem ok_F_part : cx_ok mq_F_part 1 := ⟨cx_mem 714 rfl rfl, cx_mem 58 rfl rfl, ⟨by decide +kernel, by decide +kernel, by decide +kernel⟩, by decide⟩
set_option maxRecDepth 20000 in
theorem ok_F_image : cx_ok mq_F_image 1 := ⟨cx_mem 718 rfl rfl, cx_mem 58 rfl rfl, ⟨by decide +kernel, by decide +kernel, by decide +kernel⟩, by decide⟩
set_option maxRecDepth 20000 in
theorem ok_F_from : cx_ok mq_F_from 1 := ⟨cx_mem 722 rfl rfl, cx_mem 58 rfl rfl, ⟨by decide +kernel, by decide +kernel, by decide +kernel⟩, by decide⟩
set_option maxRecDepth 20000 in
theorem ok_F_status : cx_ok mq_F_status 1 := ⟨cx_mem 726 rfl rfl, cx_mem 58 rfl rfl, ⟨by decide +kernel, by decide +kernel, by decide +kernel⟩, by decide⟩
set_option maxRecDepth 20000 in
theorem ok_F_count : cx_ok mq_F_count 1 := ⟨cx_mem 730 rfl rfl, cx_mem 58 rfl rfl, ⟨by decide +kernel, by decide +kernel, by decide +kernel⟩, by decide⟩
set_option maxRecDepth 20000 in
theorem ok_F_digest : cx_ok mq_F_digest 0 := ⟨cx_mem 742 rfl rfl, cx_mem 58 rfl rfl, ⟨by decide +kernel, by decide +kernel, by decide +kernel⟩, by decide⟩
set_option maxRecDepth 20000 in
theorem ok_F_refuse : cx_ok mq_F_refuse 1 := ⟨cx_mem 256 rfl rfl, cx_mem 58 rfl rfl, ⟨by decide +kernel, by decide +kernel, by decide +kernel⟩, by decide⟩
set_option maxRecDepth 20000 in
theorem ok_F_isWithin : cx_ok mq_F_isWithin 3 := ⟨cx_mem 252 rfl rfl, cx_mem 58 rfl rfl, ⟨by decide +kernel, by decide +kernel, by decide +kernel⟩, by decide⟩
set_option maxRecDepth 20000 in
theorem ok_F_isSide : cx_ok mq_F_isSide 1 := ⟨cx_mem 249 rfl rfl, cx_mem 58 rfl rfl, ⟨by decide +kernel, by decide +kernel, by decide +kernel⟩, by decide⟩
set_option maxRecDepth 20000 in
theorem ok_F_isKind : cx_ok mq_F_isKind 1 := ⟨cx_mem 298 rfl rfl, cx_mem 58 rfl rfl, ⟨by decide +kernel, by decide +kernel, by decide +kernel⟩, by decide⟩
set_option maxRecDepth 20000 in
theorem ok_F_isToldStep : cx_ok mq_F_isToldStep 4 := ⟨cx_mem 640 rfl rfl, cx_mem 58 rfl rfl, ⟨by decide +kernel, by decide +kernel, by decide +kernel⟩, by decide⟩
set_option maxRecDepth 20000 in
theorem ok_F_howMany : cx_ok mq_F_howMany 1 := ⟨cx_mem 734 rfl rfl, cx_mem 58 rfl rfl, ⟨by decide +kernel, by decide +kernel, by decide +kernel⟩, by decide⟩
set_option maxRecDepth 20000 in
theorem ok_F_worthBehind : cx_ok mq_F_worthBehind 6 := ⟨cx_mem 587 rfl rfl, cx_mem 58 rfl rfl, ⟨by decide +kernel, by decide +kernel, by decide +kernel⟩, by decide⟩
set_option maxRecDepth 20000 in
theorem ok_F_homeShares : cx_ok mq_F_homeShares 3 := ⟨cx_mem 621 rfl rfl, cx_mem 58 rfl rfl, ⟨by decide +kernel, by decide +kernel, by decide +kernel⟩, by decide⟩
set_option maxRecDepth 20000 in
theorem ok_F_power : cx_ok mq_F_power 2 := ⟨cx_mem 626 rfl rfl, cx_mem 58 rfl rfl, ⟨by decide +kernel, by decide +kernel, by decide +kernel⟩, by decide⟩
set_option maxRecDepth 20000 in
theorem ok_F_keepFraction : cx_ok mq_F_keepFraction 2 := ⟨cx_mem 630 rfl rfl, cx_mem 58 rfl rfl, ⟨by decide +kernel, by decide +kernel, by decide +kernel⟩, by decide⟩
set_option maxRecDepth 20000 in
theorem ok_F_greatestDivisor : cx_ok mq_F_greatestDivisor 2 := ⟨cx_mem 633 rfl rfl, cx_mem 58 rfl rfl, ⟨by decide +kernel, by decide +kernel, by decide +kernel⟩, by decide⟩
set_option maxRecDepth 20000 in
theorem ok_F_foxKinds : cx_ok mq_F_foxKinds 0 := ⟨cx_mem 660 rfl rfl, cx_mem 58 rfl rfl, ⟨by decide +kernel, by decide +kernel, by decide +kernel⟩, by decide⟩
set_option maxRecDepth 20000 in
theorem ok_F_gooseKinds : cx_ok mq_F_gooseKinds 1 := ⟨cx_mem 688 rfl rfl, cx_mem 58 rfl rfl, ⟨by decide +kernel, by decide +kernel, by decide +kernel⟩, by decide⟩
set_option maxRecDepth 20000 in
theorem ok_F_evenestStep : cx_ok mq_F_evenestStep 2 := ⟨cx_mem 675 rfl rfl, cx_mem 58 rfl rfl, ⟨by decide +kernel, by decide +kernel, by decide +kernel⟩, by decide⟩
set_option maxRecDepth 20000 in
theorem ok_F_playNumber : cx_ok mq_F_playNumber 2 := ⟨cx_mem 704 rfl rfl, cx_mem 58 rfl rfl, ⟨by decide +kernel, by decide +kernel, by decide +kernel⟩, by decide⟩
set_option maxRecDepth 20000 in
theorem ok_M_in : cx_ok mq_M_in 3 := ⟨cx_mem 811 rfl rfl, cx_mem 63 rfl rfl, ⟨by decide +kernel, by decide +kernel, by decide +kernel⟩, by decide⟩
set_option maxRecDepth 20000 in
theorem ok_M_has : cx_ok mq_M_has 2 := ⟨cx_mem 846 rfl rfl, cx_mem 63 rfl rfl, ⟨by decide +kernel, by decide +kernel, by decide +kernel⟩, by decide⟩
set_option maxRecDepth 20000 in
theorem ok_M_bad : cx_ok mq_M_bad 1 := ⟨cx_mem 815 rfl rfl, cx_mem 63 rfl rfl, ⟨by decide +kernel, by decide +kernel, by decide +kernel⟩, by decide⟩
set_option maxRecDepth 20000 in
theorem ok_M_no : cx_ok mq_M_no 0 := ⟨cx_mem 850 rfl rfl, cx_mem 63 rfl rfl, ⟨by decide +kernel, by decide +kernel, by decide +kernel⟩, by decide⟩
set_option maxRecDepth 20000 in
theorem ok_M_full : cx_ok mq_M_full 0 := ⟨cx_mem 865 rfl rfl, cx_mem 63 rfl rfl, ⟨by decide +kernel, by decide +kernel, by decide +kernel⟩, by decide⟩
set_option maxRecDepth 20000 in
theorem ok_M_copy : cx_ok mq_M_copy 3 := ⟨cx_mem 1030 rfl rfl, cx_mem 63 rfl rfl, ⟨by decide +kernel, by decide +kernel, by decide +kernel⟩, by decide⟩
set_option maxRecDepth 20000 in
theorem ok_M_empties : cx_ok mq_M_empties 1 := ⟨cx_mem 823 rfl rfl, cx_mem 63 rfl rfl, ⟨by decide +kernel, by decide +kernel, by decide +kernel⟩, by decide⟩
set_option maxRecDepth 20000 in
theorem ok_M_cells : cx_ok mq_M_cells 1 := ⟨cx_mem 835 rfl rfl, cx_mem 63 rfl rfl, ⟨by decide +kernel, by decide +kernel, by decide +kernel⟩, by decide⟩
set_option maxRecDepth 20000 in
theorem ok_M_isCell : cx_ok mq_M_isCell 2 := ⟨cx_mem 831 rfl rfl, cx_mem 63 rfl rfl, ⟨by decide +kernel, by decide +kernel, by decide +kernel⟩, by decide⟩
set_option maxRecDepth 20000 in
theorem ok_M_isGoose : cx_ok mq_M_isGoose 2 := ⟨cx_mem 1006 rfl rfl, cx_mem 63 rfl rfl, ⟨by decide +kernel, by decide +kernel, by decide +kernel⟩, by decide⟩
set_option maxRecDepth 20000 in
theorem ok_M_size : cx_ok mq_M_size 1 := ⟨cx_mem 975 rfl rfl, cx_mem 63 rfl rfl, ⟨by decide +kernel, by decide +kernel, by decide +kernel⟩, by decide⟩
set_option maxRecDepth 20000 in
theorem ok_M_plainFox : cx_ok mq_M_plainFox 2 := ⟨cx_mem 972 rfl rfl, cx_mem 63 rfl rfl, ⟨by decide +kernel, by decide +kernel, by decide +kernel⟩, by decide⟩
set_option maxRecDepth 20000 in
theorem ok_M_slyFox : cx_ok mq_M_slyFox 2 := ⟨cx_mem 969 rfl rfl, cx_mem 63 rfl rfl, ⟨by decide +kernel, by decide +kernel, by decide +kernel⟩, by decide⟩
set_option maxRecDepth 20000 in
theorem ok_M_leaperFox : cx_ok mq_M_leaperFox 3 := ⟨cx_mem 978 rfl rfl, cx_mem 63 rfl rfl, ⟨by decide +kernel, by decide +kernel, by decide +kernel⟩, by decide⟩
set_option maxRecDepth 20000 in
theorem ok_M_mayFox : cx_ok mq_M_mayFox 5 := ⟨cx_mem 966 rfl rfl, cx_mem 63 rfl rfl, ⟨by decide +kernel, by decide +kernel, by decide +kernel⟩, by decide⟩
set_option maxRecDepth 20000 in
theorem ok_M_plainGoose : cx_ok mq_M_plainGoose 2 := ⟨cx_mem 987 rfl rfl, cx_mem 63 rfl rfl, ⟨by decide +kernel, by decide +kernel, by decide +kernel⟩, by decide⟩
set_option maxRecDepth 20000 in
theorem ok_M_boldGoose : cx_ok mq_M_boldGoose 2 := ⟨cx_mem 984 rfl rfl, cx_mem 63 rfl rfl, ⟨by decide +kernel, by decide +kernel, by decide +kernel⟩, by decide⟩
set_option maxRecDepth 20000 in
theorem ok_M_shyGoose : cx_ok mq_M_shyGoose 3 := ⟨cx_mem 990 rfl rfl, cx_mem 63 rfl rfl, ⟨by decide +kernel, by decide +kernel, by decide +kernel⟩, by decide⟩
set_option maxRecDepth 20000 in
theorem ok_M_mayGoose : cx_ok mq_M_mayGoose 4 := ⟨cx_mem 981 rfl rfl, cx_mem 63 rfl rfl, ⟨by decide +kernel, by decide +kernel, by decide +kernel⟩, by decide⟩
set_option maxRecDepth 20000 in
theorem ok_M_gooseAt : cx_ok mq_M_gooseAt 2 := ⟨cx_mem 843 rfl rfl, cx_mem 63 rfl rfl, ⟨by decide +kernel, by decide +kernel, by decide +kernel⟩, by decide⟩
set_option maxRecDepth 20000 in
theorem ok_M_isFree : cx_ok mq_M_isFree 2 := ⟨cx_mem 839 rfl rfl, cx_mem 63 rfl rfl, ⟨by decide +kernel, by decide +kernel, by decide +kernel⟩, by decide⟩
set_option maxRecDepth 20000 in
theorem ok_M_gooseBetween : cx_ok mq_M_gooseBetween 3 := ⟨cx_mem 963 rfl rfl, cx_mem 63 rfl rfl, ⟨by decide +kernel, by decide +kernel, by decide +kernel⟩, by decide⟩
set_option maxRecDepth 20000 in
theorem ok_M_mayGo : cx_ok mq_M_mayGo 3 := ⟨cx_mem 959 rfl rfl, cx_mem 63 rfl rfl, ⟨by decide +kernel, by decide +kernel, by decide +kernel⟩, by decide⟩
set_option maxRecDepth 20000 in
theorem ok_M_canOf : cx_ok mq_M_canOf 2 := ⟨cx_mem 955 rfl rfl, cx_mem 63 rfl rfl, ⟨by decide +kernel, by decide +kernel, by decide +kernel⟩, by decide⟩
set_option maxRecDepth 20000 in
theorem ok_M_ones : cx_ok mq_M_ones 1 := ⟨cx_mem 853 rfl rfl, cx_mem 63 rfl rfl, ⟨by decide +kernel, by decide +kernel, by decide +kernel⟩, by decide⟩
set_option maxRecDepth 20000 in
theorem ok_M_howOf : cx_ok mq_M_howOf 1 := ⟨cx_mem 951 rfl rfl, cx_mem 63 rfl rfl, ⟨by decide +kernel, by decide +kernel, by decide +kernel⟩, by decide⟩
set_option maxRecDepth 20000 in
theorem ok_M_geeseCan : cx_ok mq_M_geeseCan 1 := ⟨cx_mem 1022 rfl rfl, cx_mem 63 rfl rfl, ⟨by decide +kernel, by decide +kernel, by decide +kernel⟩, by decide⟩
set_option maxRecDepth 20000 in
theorem ok_M_ends : cx_ok mq_M_ends 1 := ⟨cx_mem 998 rfl rfl, cx_mem 63 rfl rfl, ⟨by decide +kernel, by decide +kernel, by decide +kernel⟩, by decide⟩
set_option maxRecDepth 20000 in
theorem ok_M_foxGoes : cx_ok mq_M_foxGoes 2 := ⟨cx_mem 994 rfl rfl, cx_mem 63 rfl rfl, ⟨by decide +kernel, by decide +kernel, by decide +kernel⟩, by decide⟩
set_option maxRecDepth 20000 in
theorem ok_M_gooseGoes : cx_ok mq_M_gooseGoes 3 := ⟨cx_mem 1010 rfl rfl, cx_mem 63 rfl rfl, ⟨by decide +kernel, by decide +kernel, by decide +kernel⟩, by decide⟩
set_option maxRecDepth 20000 in
theorem ok_M_mayMove : cx_ok mq_M_mayMove 3 := ⟨cx_mem 947 rfl rfl, cx_mem 63 rfl rfl, ⟨by decide +kernel, by decide +kernel, by decide +kernel⟩, by decide⟩
set_option maxRecDepth 20000 in
theorem ok_M_mayPass : cx_ok mq_M_mayPass 1 := ⟨cx_mem 1018 rfl rfl, cx_mem 63 rfl rfl, ⟨by decide +kernel, by decide +kernel, by decide +kernel⟩, by decide⟩
set_option maxRecDepth 20000 in
theorem ok_M_begins : cx_ok mq_M_begins 3 := ⟨cx_mem 819 rfl rfl, cx_mem 63 rfl rfl, ⟨by decide +kernel, by decide +kernel, by decide +kernel⟩, by decide⟩
set_option maxRecDepth 20000 in
theorem ok_M_field : cx_ok mq_M_field 2 := ⟨cx_mem 806 rfl rfl, cx_mem 63 rfl rfl, ⟨by decide +kernel, by decide +kernel, by decide +kernel⟩, by decide⟩
set_option maxRecDepth 20000 in
theorem ok_M_thicket : cx_ok mq_M_thicket 1 := ⟨cx_mem 827 rfl rfl, cx_mem 63 rfl rfl, ⟨by decide +kernel, by decide +kernel, by decide +kernel⟩, by decide⟩
set_option maxRecDepth 20000 in
theorem ok_M_fox : cx_ok mq_M_fox 2 := ⟨cx_mem 857 rfl rfl, cx_mem 63 rfl rfl, ⟨by decide +kernel, by decide +kernel, by decide +kernel⟩, by decide⟩
set_option maxRecDepth 20000 in
theorem ok_M_addsGoose : cx_ok mq_M_addsGoose 3 := ⟨cx_mem 869 rfl rfl, cx_mem 63 rfl rfl, ⟨by decide +kernel, by decide +kernel, by decide +kernel⟩, by decide⟩
set_option maxRecDepth 20000 in
theorem ok_M_goose : cx_ok mq_M_goose 2 := ⟨cx_mem 861 rfl rfl, cx_mem 63 rfl rfl, ⟨by decide +kernel, by decide +kernel, by decide +kernel⟩, by decide⟩
set_option maxRecDepth 20000 in
theorem ok_M_type : cx_ok mq_M_type 1 := ⟨cx_mem 873 rfl rfl, cx_mem 63 rfl rfl, ⟨by decide +kernel, by decide +kernel, by decide +kernel⟩, by decide⟩
set_option maxRecDepth 20000 in
theorem ok_M_clear : cx_ok mq_M_clear 0 := ⟨cx_mem 878 rfl rfl, cx_mem 63 rfl rfl, ⟨by decide +kernel, by decide +kernel, by decide +kernel⟩, by decide⟩
set_option maxRecDepth 20000 in
theorem ok_M_byteAt : cx_ok mq_M_byteAt 1 := ⟨cx_mem 890 rfl rfl, cx_mem 63 rfl rfl, ⟨by decide +kernel, by decide +kernel, by decide +kernel⟩, by decide⟩
set_option maxRecDepth 20000 in
theorem ok_M_blanks : cx_ok mq_M_blanks 0 := ⟨cx_mem 886 rfl rfl, cx_mem 63 rfl rfl, ⟨by decide +kernel, by decide +kernel, by decide +kernel⟩, by decide⟩
set_option maxRecDepth 20000 in
theorem ok_M_takesWord : cx_ok mq_M_takesWord 0 := ⟨cx_mem 898 rfl rfl, cx_mem 63 rfl rfl, ⟨by decide +kernel, by decide +kernel, by decide +kernel⟩, by decide⟩
set_option maxRecDepth 20000 in
theorem ok_M_isWord : cx_ok mq_M_isWord 7 := ⟨cx_mem 908 rfl rfl, cx_mem 63 rfl rfl, ⟨by decide +kernel, by decide +kernel, by decide +kernel⟩, by decide⟩
set_option maxRecDepth 20000 in
theorem ok_M_isLetter : cx_ok mq_M_isLetter 3 := ⟨cx_mem 912 rfl rfl, cx_mem 63 rfl rfl, ⟨by decide +kernel, by decide +kernel, by decide +kernel⟩, by decide⟩
set_option maxRecDepth 20000 in
theorem ok_M_wordOf : cx_ok mq_M_wordOf 0 := ⟨cx_mem 904 rfl rfl, cx_mem 63 rfl rfl, ⟨by decide +kernel, by decide +kernel, by decide +kernel⟩, by decide⟩
set_option maxRecDepth 20000 in
theorem ok_M_takesNumber : cx_ok mq_M_takesNumber 2 := ⟨cx_mem 920 rfl rfl, cx_mem 63 rfl rfl, ⟨by decide +kernel, by decide +kernel, by decide +kernel⟩, by decide⟩
set_option maxRecDepth 20000 in
theorem ok_M_takesEnd : cx_ok mq_M_takesEnd 0 := ⟨cx_mem 1026 rfl rfl, cx_mem 63 rfl rfl, ⟨by decide +kernel, by decide +kernel, by decide +kernel⟩, by decide⟩
set_option maxRecDepth 20000 in
theorem ok_M_readsField : cx_ok mq_M_readsField 0 := ⟨cx_mem 916 rfl rfl, cx_mem 63 rfl rfl, ⟨by decide +kernel, by decide +kernel, by decide +kernel⟩, by decide⟩
set_option maxRecDepth 20000 in
theorem ok_M_takesCell : cx_ok mq_M_takesCell 0 := ⟨cx_mem 931 rfl rfl, cx_mem 63 rfl rfl, ⟨by decide +kernel, by decide +kernel, by decide +kernel⟩, by decide⟩
set_option maxRecDepth 20000 in
theorem ok_M_readsThicket : cx_ok mq_M_readsThicket 0 := ⟨cx_mem 927 rfl rfl, cx_mem 63 rfl rfl, ⟨by decide +kernel, by decide +kernel, by decide +kernel⟩, by decide⟩
set_option maxRecDepth 20000 in
theorem ok_M_readsFox : cx_ok mq_M_readsFox 0 := ⟨cx_mem 935 rfl rfl, cx_mem 63 rfl rfl, ⟨by decide +kernel, by decide +kernel, by decide +kernel⟩, by decide⟩
set_option maxRecDepth 20000 in
theorem ok_M_readsGoose : cx_ok mq_M_readsGoose 0 := ⟨cx_mem 939 rfl rfl, cx_mem 63 rfl rfl, ⟨by decide +kernel, by decide +kernel, by decide +kernel⟩, by decide⟩
set_option maxRecDepth 20000 in
theorem ok_M_readsGo : cx_ok mq_M_readsGo 0 := ⟨cx_mem 943 rfl rfl, cx_mem 63 rfl rfl, ⟨by decide +kernel, by decide +kernel, by decide +kernel⟩, by decide⟩
set_option maxRecDepth 20000 in
theorem ok_M_readsMove : cx_ok mq_M_readsMove 0 := ⟨cx_mem 1002 rfl rfl, cx_mem 63 rfl rfl, ⟨by decide +kernel, by decide +kernel, by decide +kernel⟩, by decide⟩
set_option maxRecDepth 20000 in
theorem ok_M_readsPass : cx_ok mq_M_readsPass 0 := ⟨cx_mem 1014 rfl rfl, cx_mem 63 rfl rfl, ⟨by decide +kernel, by decide +kernel, by decide +kernel⟩, by decide⟩
set_option maxRecDepth 20000 in
theorem ok_M_readsItem : cx_ok mq_M_readsItem 1 := ⟨cx_mem 894 rfl rfl, cx_mem 63 rfl rfl, ⟨by decide +kernel, by decide +kernel, by decide +kernel⟩, by decide⟩
set_option maxRecDepth 20000 in
theorem ok_M_read : cx_ok mq_M_read 0 := ⟨cx_mem 882 rfl rfl, cx_mem 63 rfl rfl, ⟨by decide +kernel, by decide +kernel, by decide +kernel⟩, by decide⟩
set_option maxRecDepth 20000 in
theorem ok_M_minds : cx_ok mq_M_minds 0 := ⟨cx_mem 1038 rfl rfl, cx_mem 63 rfl rfl, ⟨by decide +kernel, by decide +kernel, by decide +kernel⟩, by decide⟩
set_option maxRecDepth 20000 in
theorem ok_M_goes : cx_ok mq_M_goes 1 := ⟨cx_mem 1034 rfl rfl, cx_mem 63 rfl rfl, ⟨by decide +kernel, by decide +kernel, by decide +kernel⟩, by decide⟩
set_option maxRecDepth 20000 in
theorem ok_M_moves : cx_ok mq_M_moves 2 := ⟨cx_mem 1042 rfl rfl, cx_mem 63 rfl rfl, ⟨by decide +kernel, by decide +kernel, by decide +kernel⟩, by decide⟩
set_option maxRecDepth 20000 in
theorem ok_M_passes : cx_ok mq_M_passes 0 := ⟨cx_mem 1046 rfl rfl, cx_mem 63 rfl rfl, ⟨by decide +kernel, by decide +kernel, by decide +kernel⟩, by decide⟩
set_option maxRecDepth 20000 in
theorem ok_M_undo : cx_ok mq_M_undo 0 := ⟨cx_mem 1050 rfl rfl, cx_mem 63 rfl rfl, ⟨by decide +kernel, by decide +kernel, by decide +kernel⟩, by decide⟩
set_option maxRecDepth 20000 in
theorem ok_M_of : cx_ok mq_M_of 2 := ⟨cx_mem 1054 rfl rfl, cx_mem 63 rfl rfl, ⟨by decide +kernel, by decide +kernel, by decide +kernel⟩, by decide⟩
set_option maxRecDepth 20000 in
theorem ok_M_can : cx_ok mq_M_can 1 := ⟨cx_mem 1058 rfl rfl, cx_mem 63 rfl rfl, ⟨by decide +kernel, by decide +kernel, by decide +kernel⟩, by decide⟩
set_option maxRecDepth 20000 in
theorem ok_M_row : cx_ok mq_M_row 1 := ⟨cx_mem 1070 rfl rfl, cx_mem 63 rfl rfl, ⟨by decide +kernel, by decide +kernel, by decide +kernel⟩, by decide⟩
set_option maxRecDepth 20000 in
theorem ok_M_nextMove : cx_ok mq_M_nextMove 2 := ⟨cx_mem 1075 rfl rfl, cx_mem 63 rfl rfl, ⟨by decide +kernel, by decide +kernel, by decide +kernel⟩, by decide⟩
set_option maxRecDepth 20000 in
theorem ok_M_does : cx_ok mq_M_does 2 := ⟨cx_mem 1079 rfl rfl, cx_mem 63 rfl rfl, ⟨by decide +kernel, by decide +kernel, by decide +kernel⟩, by decide⟩
set_option maxRecDepth 20000 in
theorem ok_M_worthOf : cx_ok mq_M_worthOf 1 := ⟨cx_mem 1067 rfl rfl, cx_mem 63 rfl rfl, ⟨by decide +kernel, by decide +kernel, by decide +kernel⟩, by decide⟩
set_option maxRecDepth 20000 in
theorem ok_M_worth : cx_ok mq_M_worth 1 := ⟨cx_mem 1062 rfl rfl, cx_mem 63 rfl rfl, ⟨by decide +kernel, by decide +kernel, by decide +kernel⟩, by decide⟩
set_option maxRecDepth 20000 in
theorem ok_M_best : cx_ok mq_M_best 1 := ⟨cx_mem 1083 rfl rfl, cx_mem 63 rfl rfl, ⟨by decide +kernel, by decide +kernel, by decide +kernel⟩, by decide⟩
set_option maxRecDepth 20000 in
theorem ok_M_few : cx_ok mq_M_few 0 := ⟨cx_mem 1087 rfl rfl, cx_mem 63 rfl rfl, ⟨by decide +kernel, by decide +kernel, by decide +kernel⟩, by decide⟩
set_option maxRecDepth 20000 in
theorem ok_M_stepsOf : cx_ok mq_M_stepsOf 1 := ⟨cx_mem 1091 rfl rfl, cx_mem 63 rfl rfl, ⟨by decide +kernel, by decide +kernel, by decide +kernel⟩, by decide⟩
set_option maxRecDepth 20000 in
theorem ok_M_told : cx_ok mq_M_told 2 := ⟨cx_mem 1104 rfl rfl, cx_mem 63 rfl rfl, ⟨by decide +kernel, by decide +kernel, by decide +kernel⟩, by decide⟩
set_option maxRecDepth 20000 in
theorem ok_M_luckOf : cx_ok mq_M_luckOf 1 := ⟨cx_mem 1100 rfl rfl, cx_mem 63 rfl rfl, ⟨by decide +kernel, by decide +kernel, by decide +kernel⟩, by decide⟩
set_option maxRecDepth 20000 in
theorem ok_M_luck : cx_ok mq_M_luck 1 := ⟨cx_mem 1095 rfl rfl, cx_mem 63 rfl rfl, ⟨by decide +kernel, by decide +kernel, by decide +kernel⟩, by decide⟩
set_option maxRecDepth 20000 in
theorem ok_M_keeps : cx_ok mq_M_keeps 6 := ⟨cx_mem 1117 rfl rfl, cx_mem 63 rfl rfl, ⟨by decide +kernel, by decide +kernel, by decide +kernel⟩, by decide⟩
set_option maxRecDepth 20000 in
theorem ok_M_isStep : cx_ok mq_M_isStep 3 := ⟨cx_mem 1111 rfl rfl, cx_mem 63 rfl rfl, ⟨by decide +kernel, by decide +kernel, by decide +kernel⟩, by decide⟩
set_option maxRecDepth 20000 in
theorem ok_M_note : cx_ok mq_M_note 5 := ⟨cx_mem 1108 rfl rfl, cx_mem 63 rfl rfl, ⟨by decide +kernel, by decide +kernel, by decide +kernel⟩, by decide⟩
set_option maxRecDepth 20000 in
theorem ok_M_mark : cx_ok mq_M_mark 5 := ⟨cx_mem 1121 rfl rfl, cx_mem 63 rfl rfl, ⟨by decide +kernel, by decide +kernel, by decide +kernel⟩, by decide⟩
set_option maxRecDepth 20000 in
theorem ok_M_forget : cx_ok mq_M_forget 1 := ⟨cx_mem 1125 rfl rfl, cx_mem 63 rfl rfl, ⟨by decide +kernel, by decide +kernel, by decide +kernel⟩, by decide⟩
set_option maxRecDepth 20000 in
theorem ok_M_is : cx_ok mq_M_is 0 := ⟨cx_mem 1129 rfl rfl, cx_mem 63 rfl rfl, ⟨by decide +kernel, by decide +kernel, by decide +kernel⟩, by decide⟩
set_option maxRecDepth 20000 in
theorem ok_M_look : cx_ok mq_M_look 0 := ⟨cx_mem 1133 rfl rfl, cx_mem 63 rfl rfl, ⟨by decide +kernel, by decide +kernel, by decide +kernel⟩, by decide⟩
set_option maxRecDepth 20000 in
theorem ok_M_whatOf : cx_ok mq_M_whatOf 1 := ⟨cx_mem 1142 rfl rfl, cx_mem 63 rfl rfl, ⟨by decide +kernel, by decide +kernel, by decide +kernel⟩, by decide⟩
set_option maxRecDepth 20000 in
theorem ok_M_kinds : cx_ok mq_M_kinds 1 := ⟨cx_mem 1138 rfl rfl, cx_mem 63 rfl rfl, ⟨by decide +kernel, by decide +kernel, by decide +kernel⟩, by decide⟩
set_option maxRecDepth 20000 in
theorem ok_M_ask : cx_ok mq_M_ask 1 := ⟨cx_mem 1146 rfl rfl, cx_mem 63 rfl rfl, ⟨by decide +kernel, by decide +kernel, by decide +kernel⟩, by decide⟩
set_option maxRecDepth 20000 in
theorem ok_M_evenings : cx_ok mq_M_evenings 2 := ⟨cx_mem 1150 rfl rfl, cx_mem 63 rfl rfl, ⟨by decide +kernel, by decide +kernel, by decide +kernel⟩, by decide⟩
set_option maxRecDepth 20000 in
theorem ok_M_part : cx_ok mq_M_part 1 := ⟨cx_mem 1160 rfl rfl, cx_mem 63 rfl rfl, ⟨by decide +kernel, by decide +kernel, by decide +kernel⟩, by decide⟩
set_option maxRecDepth 20000 in
theorem ok_M_image : cx_ok mq_M_image 1 := ⟨cx_mem 1164 rfl rfl, cx_mem 63 rfl rfl, ⟨by decide +kernel, by decide +kernel, by decide +kernel⟩, by decide⟩
set_option maxRecDepth 20000 in
theorem ok_M_from : cx_ok mq_M_from 1 := ⟨cx_mem 1168 rfl rfl, cx_mem 63 rfl rfl, ⟨by decide +kernel, by decide +kernel, by decide +kernel⟩, by decide⟩
set_option maxRecDepth 20000 in
theorem ok_M_status : cx_ok mq_M_status 1 := ⟨cx_mem 1172 rfl rfl, cx_mem 63 rfl rfl, ⟨by decide +kernel, by decide +kernel, by decide +kernel⟩, by decide⟩
set_option maxRecDepth 20000 in
theorem ok_M_eaten : cx_ok mq_M_eaten 0 := ⟨cx_mem 1185 rfl rfl, cx_mem 63 rfl rfl, ⟨by decide +kernel, by decide +kernel, by decide +kernel⟩, by decide⟩
set_option maxRecDepth 20000 in
theorem ok_M_countOf : cx_ok mq_M_countOf 1 := ⟨cx_mem 1181 rfl rfl, cx_mem 63 rfl rfl, ⟨by decide +kernel, by decide +kernel, by decide +kernel⟩, by decide⟩
set_option maxRecDepth 20000 in
theorem ok_M_count : cx_ok mq_M_count 1 := ⟨cx_mem 1176 rfl rfl, cx_mem 63 rfl rfl, ⟨by decide +kernel, by decide +kernel, by decide +kernel⟩, by decide⟩
set_option maxRecDepth 20000 in
theorem ok_M_mix : cx_ok mq_M_mix 1 := ⟨cx_mem 1194 rfl rfl, cx_mem 63 rfl rfl, ⟨by decide +kernel, by decide +kernel, by decide +kernel⟩, by decide⟩
set_option maxRecDepth 20000 in
theorem ok_M_mixes : cx_ok mq_M_mixes 2 := ⟨cx_mem 1199 rfl rfl, cx_mem 63 rfl rfl, ⟨by decide +kernel, by decide +kernel, by decide +kernel⟩, by decide⟩
set_option maxRecDepth 20000 in
theorem ok_M_digest : cx_ok mq_M_digest 0 := ⟨cx_mem 1189 rfl rfl, cx_mem 63 rfl rfl, ⟨by decide +kernel, by decide +kernel, by decide +kernel⟩, by decide⟩
theorem cx_mxok : ∀ y, cx_mx y = (cx_mt y).2.2.1 := by
  intro y
  have h : ∀ y, y < 211 → cx_mx y = (cx_mt y).2.2.1 := by decide +kernel
  rcases Nat.lt_or_ge y 211 with q | q
  · exact h y q
  · unfold cx_mx cx_mt
    rw [List.getD_eq_getElem?_getD, List.getD_eq_getElem?_getD, List.getElem?_eq_none (show cx_mxL.length ≤ y from q), List.getElem?_eq_none (show cx_mtL.length ≤ y from q)]
    rfl
theorem cx_mtpl : ∀ y, plainFor (cx_mt y).1 = true := by
  intro y
  have h : ∀ y, y < 211 → plainFor (cx_mt y).1 = true := by decide +kernel
  rcases Nat.lt_or_ge y 211 with q | q
  · exact h y q
  · unfold cx_mt
    rw [List.getD_eq_getElem?_getD, List.getElem?_eq_none (show cx_mtL.length ≤ y from q)]
    decide +kernel
theorem sh_0_1 {k : Nat} (h : ab_sh k = (0, 0)) : ab_sh (k + 1) = (1, 4) := by
  have a : ∀ k, k < 64 → ab_sh k = (0, 0) → ab_sh (k + 1) = (1, 4) := by decide +kernel
  exact a k (ab_shlt h (by omega)) h
theorem sh_0_2 {k : Nat} (h : ab_sh k = (0, 0)) : ab_sh (k + 2) = (1, 4) := by
  have a : ∀ k, k < 64 → ab_sh k = (0, 0) → ab_sh (k + 2) = (1, 4) := by decide +kernel
  exact a k (ab_shlt h (by omega)) h
theorem sh_1_1 {k : Nat} (h : ab_sh k = (0, 1)) : ab_sh (k + 1) = (0, 0) := by
  have a : ∀ k, k < 64 → ab_sh k = (0, 1) → ab_sh (k + 1) = (0, 0) := by decide +kernel
  exact a k (ab_shlt h (by omega)) h
theorem sh_1_4 {k : Nat} (h : ab_sh k = (0, 1)) : ab_sh (k + 4) = (0, 2) := by
  have a : ∀ k, k < 64 → ab_sh k = (0, 1) → ab_sh (k + 4) = (0, 2) := by decide +kernel
  exact a k (ab_shlt h (by omega)) h
theorem sh_1_6 {k : Nat} (h : ab_sh k = (0, 1)) : ab_sh (k + 6) = (0, 2) := by
  have a : ∀ k, k < 64 → ab_sh k = (0, 1) → ab_sh (k + 6) = (0, 2) := by decide +kernel
  exact a k (ab_shlt h (by omega)) h
theorem sh_1_8 {k : Nat} (h : ab_sh k = (0, 1)) : ab_sh (k + 8) = (1, 56) := by
  have a : ∀ k, k < 64 → ab_sh k = (0, 1) → ab_sh (k + 8) = (1, 56) := by decide +kernel
  exact a k (ab_shlt h (by omega)) h
theorem sh_2_1 {k : Nat} (h : ab_sh k = (0, 2)) : ab_sh (k + 1) = (1, 30) := by
  have a : ∀ k, k < 64 → ab_sh k = (0, 2) → ab_sh (k + 1) = (1, 30) := by decide +kernel
  exact a k (ab_shlt h (by omega)) h
theorem sh_g {i : Int32} (h : vp_in i 2) : ab_sh (26 + 9 * i.toNatClampNeg) = (0, 1) := by
  obtain ⟨j, hj, rfl⟩ := vp_in_of h (by decide)
  rw [nI_clamp (by omega)]
  rcases (show j = 0 ∨ j = 1 by omega) with rfl | rfl <;> rfl
theorem sh_b {i : Int32} (h : vp_in i 4) : ab_sh (44 + 3 * i.toNatClampNeg) = (0, 0) := by
  obtain ⟨j, hj, rfl⟩ := vp_in_of h (by decide)
  rw [nI_clamp (by omega)]
  rcases (show j = 0 ∨ j = 1 ∨ j = 2 ∨ j = 3 by omega) with rfl | rfl | rfl | rfl <;> rfl
theorem ab_bt_up {a : Nat} (h : ab_bt 64 71 a) : ab_bt 71 78 (a + 7) := ⟨by have := h.1; omega, by have := h.2; omega⟩
