/-! methods and links, by program -/
abbrev mi_C_isStation : mI := (⟨"PacketField", "isStation", "(I)Z"⟩, prog_1_method_24_code, 1, (some .boolean))
abbrev mi_C_stationAt : mI := (⟨"PacketField", "stationAt", "(I)LPacketField$Station;"⟩, prog_1_method_28_code, 2, (some (.object "PacketField$Station")))
abbrev mi_B_add : mI := (⟨"PacketField$Bytes", "add", "(I)V"⟩, prog_2_method_4_code, 2, none)
abbrev mi_B_addAddress : mI := (⟨"PacketField$Bytes", "addAddress", "([II)V"⟩, prog_2_method_7_code, 4, none)
abbrev mi_T_qualityOf : mI := (⟨"PacketField$Routes", "qualityOf", "(II)I"⟩, prog_7_method_2_code, 3, (some .int))
abbrev mi_T_bestTo : mI := (⟨"PacketField$Routes", "bestTo", "(I)I"⟩, prog_7_method_5_code, 5, (some .int))
abbrev mi_T_countBest : mI := (⟨"PacketField$Routes", "countBest", "()I"⟩, prog_7_method_6_code, 3, (some .int))
abbrev mi_T_growOld : mI := (⟨"PacketField$Routes", "growOld", "()V"⟩, prog_7_method_7_code, 2, none)
abbrev mi_T_tell : mI := (⟨"PacketField$Routes", "tell", "(LPacketField$Bytes;)V"⟩, prog_7_method_8_code, 4, none)
abbrev mi_W_addRow : mI := (⟨"PacketField$Rows", "addRow", "()LPacketField$Bytes;"⟩, prog_8_method_4_code, 2, (some (.object "PacketField$Bytes")))
abbrev mi_C_tellRoutes : mI := (⟨"PacketField", "tellRoutes", "(LPacketField$Station;)I"⟩, prog_1_method_61_code, 2, (some .int))
abbrev mi_C_beacon : mI := (⟨"PacketField", "beacon", "(I)I"⟩, prog_1_method_16_code, 3, (some .int))
abbrev mi_C_best : mI := (⟨"PacketField", "best", "(II)I"⟩, prog_1_method_22_code, 4, (some .int))
abbrev mi_B_clear : mI := (⟨"PacketField$Bytes", "clear", "()V"⟩, prog_2_method_2_code, 1, none)
abbrev mi_C_isFrame : mI := (⟨"PacketField", "isFrame", "(LPacketField$Bytes;)Z"⟩, prog_1_method_25_code, 1, (some .boolean))
abbrev mi_S_isThrough : mI := (⟨"PacketField$Sender", "isThrough", "()Z"⟩, prog_9_method_4_code, 1, (some .boolean))
abbrev mi_B_at : mI := (⟨"PacketField$Bytes", "at", "(I)I"⟩, prog_2_method_3_code, 2, (some .int))
abbrev mi_S_nextBit : mI := (⟨"PacketField$Sender", "nextBit", "()I"⟩, prog_9_method_6_code, 2, (some .int))
abbrev mi_S_sendBit : mI := (⟨"PacketField$Sender", "sendBit", "()V"⟩, prog_9_method_5_code, 1, none)
abbrev mi_C_putLevels : mI := (⟨"PacketField", "putLevels", "()V"⟩, prog_1_method_31_code, 2, none)
abbrev mi_S_startFlags : mI := (⟨"PacketField$Sender", "startFlags", "(I)V"⟩, prog_9_method_2_code, 2, none)
abbrev mi_B_addFrom : mI := (⟨"PacketField$Bytes", "addFrom", "(LPacketField$Bytes;II)V"⟩, prog_2_method_6_code, 5, none)
abbrev mi_C_checkOf : mI := (⟨"PacketField", "checkOf", "(LPacketField$Bytes;I)I"⟩, prog_1_method_63_code, 5, (some .int))
abbrev mi_S_startFrame : mI := (⟨"PacketField$Sender", "startFrame", "(LPacketField$Bytes;)V"⟩, prog_9_method_3_code, 3, none)
abbrev mi_C_bits : mI := (⟨"PacketField", "bits", "(I)I"⟩, prog_1_method_5_code, 3, (some .int))
abbrev mi_C_areVias : mI := (⟨"PacketField", "areVias", "(IIII)Z"⟩, prog_1_method_27_code, 4, (some .boolean))
abbrev mi_C_say : mI := (⟨"PacketField", "say", "(LPacketField$Station;LPacketField$Path;IZ)LPacketField$Bytes;"⟩, prog_1_method_49_code, 6, (some (.object "PacketField$Bytes")))
abbrev mi_K_enter : mI := (⟨"PacketField$Link", "enter", "(I)V"⟩, prog_4_method_4_code, 2, none)
abbrev mi_W_clear : mI := (⟨"PacketField$Rows", "clear", "()V"⟩, prog_8_method_2_code, 1, none)
abbrev mi_K_restart : mI := (⟨"PacketField$Link", "restart", "(I)V"⟩, prog_4_method_5_code, 2, none)
abbrev mi_C_callOther : mI := (⟨"PacketField", "callOther", "(LPacketField$Link;)V"⟩, prog_1_method_54_code, 1, none)
abbrev mi_N_linkTo : mI := (⟨"PacketField$Station", "linkTo", "(I)LPacketField$Link;"⟩, prog_10_method_2_code, 2, (some (.object "PacketField$Link")))
abbrev mi_C_linkAt : mI := (⟨"PacketField", "linkAt", "(II)LPacketField$Link;"⟩, prog_1_method_29_code, 4, (some (.object "PacketField$Link")))
abbrev mi_C_call : mI := (⟨"PacketField", "call", "(IIII)Z"⟩, prog_1_method_10_code, 6, (some .boolean))
abbrev mi_C_end : mI := (⟨"PacketField", "end", "(I)Z"⟩, prog_1_method_3_code, 2, (some .boolean))
abbrev mi_B_addNumber : mI := (⟨"PacketField$Bytes", "addNumber", "(I)V"⟩, prog_2_method_5_code, 3, none)
abbrev mi_C_feed : mI := (⟨"PacketField", "feed", "(IIIII)Z"⟩, prog_1_method_2_code, 6, (some .boolean))
abbrev mi_C_giveTape : mI := (⟨"PacketField", "giveTape", "(LPacketField$Link;)I"⟩, prog_1_method_32_code, 2, (some .int))
abbrev mi_C_give : mI := (⟨"PacketField", "give", "(II)I"⟩, prog_1_method_12_code, 4, (some .int))
abbrev mi_C_hears : mI := (⟨"PacketField", "hears", "(IIZ)Z"⟩, prog_1_method_7_code, 5, (some .boolean))
abbrev mi_B_init : mI := (⟨"PacketField$Bytes", "<init>", "(I)V"⟩, prog_2_method_1_code, 2, none)
abbrev mi_P_init : mI := (⟨"PacketField$Path", "<init>", "()V"⟩, prog_5_method_1_code, 1, none)
abbrev mi_F_init : mI := (⟨"PacketField$Frame", "<init>", "()V"⟩, prog_3_method_1_code, 1, none)
abbrev mi_W_init : mI := (⟨"PacketField$Rows", "<init>", "(II)V"⟩, prog_8_method_1_code, 4, none)
abbrev mi_K_init : mI := (⟨"PacketField$Link", "<init>", "(LPacketField$Station;I)V"⟩, prog_4_method_1_code, 3, none)
abbrev mi_S_init : mI := (⟨"PacketField$Sender", "<init>", "()V"⟩, prog_9_method_1_code, 1, none)
abbrev mi_T_init : mI := (⟨"PacketField$Routes", "<init>", "(I)V"⟩, prog_7_method_1_code, 2, none)
abbrev mi_V_init : mI := (⟨"PacketField$Receiver", "<init>", "()V"⟩, prog_6_method_1_code, 1, none)
abbrev mi_N_init : mI := (⟨"PacketField$Station", "<init>", "(I)V"⟩, prog_10_method_1_code, 2, none)
abbrev mi_C_init : mI := (⟨"PacketField", "<init>", "()V"⟩, prog_1_method_1_code, 4, none)
abbrev mi_C_leave : mI := (⟨"PacketField", "leave", "(II)Z"⟩, prog_1_method_11_code, 4, (some .boolean))
abbrev mi_B_raise : mI := (⟨"PacketField$Bytes", "raise", "(II)V"⟩, prog_2_method_8_code, 3, none)
abbrev mi_C_receivePacket : mI := (⟨"PacketField", "receivePacket", "(LPacketField$Station;LPacketField$Bytes;I)V"⟩, prog_1_method_62_code, 9, none)
abbrev mi_C_letter : mI := (⟨"PacketField", "letter", "(II)I"⟩, prog_1_method_14_code, 6, (some .int))
abbrev mi_C_link : mI := (⟨"PacketField", "link", "(III)I"⟩, prog_1_method_20_code, 5, (some .int))
abbrev mi_C_out : mI := (⟨"PacketField", "out", "(I)I"⟩, prog_1_method_4_code, 2, (some .int))
abbrev mi_W_rowAt : mI := (⟨"PacketField$Rows", "rowAt", "(I)LPacketField$Bytes;"⟩, prog_8_method_3_code, 2, (some (.object "PacketField$Bytes")))
abbrev mi_C_queued : mI := (⟨"PacketField", "queued", "(III)I"⟩, prog_1_method_23_code, 6, (some .int))
abbrev mi_C_raw : mI := (⟨"PacketField", "raw", "(I)Z"⟩, prog_1_method_9_code, 4, (some .boolean))
abbrev mi_B_dropFirst : mI := (⟨"PacketField$Bytes", "dropFirst", "(I)V"⟩, prog_2_method_9_code, 3, none)
abbrev mi_C_putOut : mI := (⟨"PacketField", "putOut", "(LPacketField$Bytes;II)V"⟩, prog_1_method_30_code, 4, none)
abbrev mi_K_isBusy : mI := (⟨"PacketField$Link", "isBusy", "()Z"⟩, prog_4_method_2_code, 1, (some .boolean))
abbrev mi_C_sayReady : mI := (⟨"PacketField", "sayReady", "(LPacketField$Link;IZ)V"⟩, prog_1_method_51_code, 4, none)
abbrev mi_C_read : mI := (⟨"PacketField", "read", "(III)I"⟩, prog_1_method_13_code, 7, (some .int))
abbrev mi_T_ageOf : mI := (⟨"PacketField$Routes", "ageOf", "(II)I"⟩, prog_7_method_3_code, 3, (some .int))
abbrev mi_C_route : mI := (⟨"PacketField", "route", "(IIII)I"⟩, prog_1_method_21_code, 6, (some .int))
abbrev mi_C_waitOrDraw : mI := (⟨"PacketField", "waitOrDraw", "(LPacketField$Station;)V"⟩, prog_1_method_34_code, 2, none)
abbrev mi_C_drawForChannel : mI := (⟨"PacketField", "drawForChannel", "()V"⟩, prog_1_method_33_code, 3, none)
abbrev mi_S_hasSent : mI := (⟨"PacketField$Sender", "hasSent", "(LPacketField$Bytes;)Z"⟩, prog_9_method_8_code, 3, (some .boolean))
abbrev mi_C_isStray : mI := (⟨"PacketField", "isStray", "(LPacketField$Bytes;I)Z"⟩, prog_1_method_40_code, 4, (some .boolean))
abbrev mi_C_hash : mI := (⟨"PacketField", "hash", "(II)I"⟩, prog_1_method_39_code, 3, (some .int))
abbrev mi_J_bitCount : mI := (⟨"java/lang/Integer", "bitCount", "(I)I"⟩, prog_13_method_49_code, 1, (some .int))
abbrev mi_C_levelOf : mI := (⟨"PacketField", "levelOf", "(LPacketField$Station;I)I"⟩, prog_1_method_38_code, 5, (some .int))
abbrev mi_V_addBit : mI := (⟨"PacketField$Receiver", "addBit", "(I)V"⟩, prog_6_method_6_code, 2, none)
abbrev mi_V_hearOne : mI := (⟨"PacketField$Receiver", "hearOne", "()V"⟩, prog_6_method_5_code, 1, none)
abbrev mi_V_holdsFrame : mI := (⟨"PacketField$Receiver", "holdsFrame", "()Z"⟩, prog_6_method_7_code, 3, (some .boolean))
abbrev mi_V_hear : mI := (⟨"PacketField$Receiver", "hear", "(I)Z"⟩, prog_6_method_4_code, 4, (some .boolean))
abbrev mi_V_hearNothing : mI := (⟨"PacketField$Receiver", "hearNothing", "()V"⟩, prog_6_method_3_code, 1, none)
abbrev mi_C_hearLevels : mI := (⟨"PacketField", "hearLevels", "()I"⟩, prog_1_method_37_code, 5, (some .int))
abbrev mi_C_sayInformation : mI := (⟨"PacketField", "sayInformation", "(LPacketField$Link;ILPacketField$Bytes;)V"⟩, prog_1_method_52_code, 4, none)
abbrev mi_W_dropFirst : mI := (⟨"PacketField$Rows", "dropFirst", "(I)V"⟩, prog_8_method_5_code, 3, none)
abbrev mi_C_sayContent : mI := (⟨"PacketField", "sayContent", "(LPacketField$Link;)V"⟩, prog_1_method_59_code, 4, none)
abbrev mi_C_sayNext : mI := (⟨"PacketField", "sayNext", "(LPacketField$Link;)V"⟩, prog_1_method_58_code, 1, none)
abbrev mi_K_hasWork : mI := (⟨"PacketField$Link", "hasWork", "()Z"⟩, prog_4_method_3_code, 1, (some .boolean))
abbrev mi_C_sayWhatMayBeSaid : mI := (⟨"PacketField", "sayWhatMayBeSaid", "()V"⟩, prog_1_method_57_code, 5, none)
abbrev mi_S_endsFrame : mI := (⟨"PacketField$Sender", "endsFrame", "()Z"⟩, prog_9_method_7_code, 1, (some .boolean))
abbrev mi_C_sendNext : mI := (⟨"PacketField", "sendNext", "(LPacketField$Station;)V"⟩, prog_1_method_36_code, 4, none)
abbrev mi_C_sendBits : mI := (⟨"PacketField", "sendBits", "()V"⟩, prog_1_method_35_code, 3, none)
abbrev mi_C_answer : mI := (⟨"PacketField", "answer", "(LPacketField$Station;I)V"⟩, prog_1_method_50_code, 3, none)
abbrev mi_B_isNamed : mI := (⟨"PacketField$Bytes", "isNamed", "(I[I)Z"⟩, prog_2_method_10_code, 4, (some .boolean))
abbrev mi_F_addressAt : mI := (⟨"PacketField$Frame", "addressAt", "(LPacketField$Bytes;I)I"⟩, prog_3_method_5_code, 6, (some .int))
abbrev mi_F_viaAt : mI := (⟨"PacketField$Frame", "viaAt", "(LPacketField$Bytes;)I"⟩, prog_3_method_6_code, 2, (some .int))
abbrev mi_C_repeat : mI := (⟨"PacketField", "repeat", "(LPacketField$Station;LPacketField$Bytes;)V"⟩, prog_1_method_42_code, 4, none)
abbrev mi_P_become : mI := (⟨"PacketField$Path", "become", "(LPacketField$Path;)V"⟩, prog_5_method_2_code, 2, none)
abbrev mi_C_takeSabm : mI := (⟨"PacketField", "takeSabm", "(LPacketField$Link;)V"⟩, prog_1_method_43_code, 7, none)
abbrev mi_K_goDown : mI := (⟨"PacketField$Link", "goDown", "()V"⟩, prog_4_method_6_code, 1, none)
abbrev mi_C_acknowledge : mI := (⟨"PacketField", "acknowledge", "(LPacketField$Link;)Z"⟩, prog_1_method_46_code, 3, (some .boolean))
abbrev mi_C_takeInformation : mI := (⟨"PacketField", "takeInformation", "(LPacketField$Link;)V"⟩, prog_1_method_48_code, 3, none)
abbrev mi_C_sayAgain : mI := (⟨"PacketField", "sayAgain", "(LPacketField$Link;)V"⟩, prog_1_method_53_code, 2, none)
abbrev mi_C_takeSupervision : mI := (⟨"PacketField", "takeSupervision", "(LPacketField$Link;)V"⟩, prog_1_method_47_code, 3, none)
abbrev mi_C_takeWhileUp : mI := (⟨"PacketField", "takeWhileUp", "(LPacketField$Link;)V"⟩, prog_1_method_45_code, 2, none)
abbrev mi_C_takeWhileWaiting : mI := (⟨"PacketField", "takeWhileWaiting", "(LPacketField$Link;)V"⟩, prog_1_method_44_code, 3, none)
abbrev mi_F_readAddresses : mI := (⟨"PacketField$Frame", "readAddresses", "(LPacketField$Bytes;)Z"⟩, prog_3_method_3_code, 6, (some .boolean))
abbrev mi_F_readDirection : mI := (⟨"PacketField$Frame", "readDirection", "(LPacketField$Bytes;)Z"⟩, prog_3_method_4_code, 3, (some .boolean))
abbrev mi_F_readInformation : mI := (⟨"PacketField$Frame", "readInformation", "(LPacketField$Bytes;I)Z"⟩, prog_3_method_8_code, 6, (some .boolean))
abbrev mi_F_readNodes : mI := (⟨"PacketField$Frame", "readNodes", "(LPacketField$Bytes;I)Z"⟩, prog_3_method_7_code, 7, (some .boolean))
abbrev mi_F_readOther : mI := (⟨"PacketField$Frame", "readOther", "(LPacketField$Bytes;I)Z"⟩, prog_3_method_9_code, 4, (some .boolean))
abbrev mi_F_understand : mI := (⟨"PacketField$Frame", "understand", "(LPacketField$Bytes;)Z"⟩, prog_3_method_2_code, 3, (some .boolean))
abbrev mi_T_put : mI := (⟨"PacketField$Routes", "put", "(III)V"⟩, prog_7_method_4_code, 4, none)
abbrev mi_T_learn : mI := (⟨"PacketField$Routes", "learn", "(IILPacketField$Bytes;I)V"⟩, prog_7_method_9_code, 8, none)
abbrev mi_C_takeFrame : mI := (⟨"PacketField", "takeFrame", "(LPacketField$Station;)V"⟩, prog_1_method_41_code, 4, none)
abbrev mi_C_tellRoutesInTime : mI := (⟨"PacketField", "tellRoutesInTime", "()V"⟩, prog_1_method_60_code, 3, none)
abbrev mi_C_tryAgain : mI := (⟨"PacketField", "tryAgain", "(LPacketField$Link;)V"⟩, prog_1_method_56_code, 2, none)
abbrev mi_C_turnClocks : mI := (⟨"PacketField", "turnClocks", "()V"⟩, prog_1_method_55_code, 5, none)
abbrev mi_C_run : mI := (⟨"PacketField", "run", "(I)I"⟩, prog_1_method_17_code, 6, (some .int))
abbrev mi_C_station : mI := (⟨"PacketField", "station", "(II)I"⟩, prog_1_method_19_code, 4, (some .int))
abbrev mi_C_take : mI := (⟨"PacketField", "take", "(I)I"⟩, prog_1_method_15_code, 4, (some .int))
abbrev mi_C_time : mI := (⟨"PacketField", "time", "()I"⟩, prog_1_method_18_code, 1, (some .int))
abbrev mi_C_isSetting : mI := (⟨"PacketField", "isSetting", "(II)Z"⟩, prog_1_method_26_code, 2, (some .boolean))
abbrev mi_C_tune : mI := (⟨"PacketField", "tune", "(III)Z"⟩, prog_1_method_8_code, 5, (some .boolean))
abbrev mi_V_restart : mI := (⟨"PacketField$Receiver", "restart", "()V"⟩, prog_6_method_2_code, 1, none)
abbrev mi_C_unbits : mI := (⟨"PacketField", "unbits", "()I"⟩, prog_1_method_6_code, 3, (some .int))
abbrev mi_M_in : mI := (⟨"PacketFieldModel", "in", "(III)Z"⟩, prog_12_method_3_code, 3, (some .boolean))
abbrev mi_M_isStation : mI := (⟨"PacketFieldModel", "isStation", "(I)Z"⟩, prog_12_method_4_code, 1, (some .boolean))
abbrev mi_M_letter : mI := (⟨"PacketFieldModel", "letter", "(IZ)I"⟩, prog_12_method_40_code, 2, (some .int))
abbrev mi_M_put : mI := (⟨"PacketFieldModel", "put", "(I)V"⟩, prog_12_method_25_code, 2, none)
abbrev mi_M_address : mI := (⟨"PacketFieldModel", "address", "(II)V"⟩, prog_12_method_49_code, 4, none)
abbrev mi_M_begin : mI := (⟨"PacketFieldModel", "begin", "(IIIIZ)V"⟩, prog_12_method_50_code, 6, none)
abbrev mi_M_bestTo : mI := (⟨"PacketFieldModel", "bestTo", "(II)I"⟩, prog_12_method_70_code, 7, (some .int))
abbrev mi_M_count : mI := (⟨"PacketFieldModel", "count", "(II)V"⟩, prog_12_method_21_code, 3, none)
abbrev mi_M_enqueue : mI := (⟨"PacketFieldModel", "enqueue", "(I)V"⟩, prog_12_method_26_code, 4, none)
abbrev mi_M_tells : mI := (⟨"PacketFieldModel", "tells", "(I)I"⟩, prog_12_method_71_code, 5, (some .int))
abbrev mi_M_beacon : mI := (⟨"PacketFieldModel", "beacon", "(I)I"⟩, prog_12_method_82_code, 2, (some .int))
abbrev mi_M_isLink : mI := (⟨"PacketFieldModel", "isLink", "(II)Z"⟩, prog_12_method_5_code, 2, (some .boolean))
abbrev mi_M_best : mI := (⟨"PacketFieldModel", "best", "(II)I"⟩, prog_12_method_85_code, 3, (some .int))
abbrev mi_M_makeFlag : mI := (⟨"PacketFieldModel", "makeFlag", "()V"⟩, prog_12_method_13_code, 2, none)
abbrev mi_M_checkOf : mI := (⟨"PacketFieldModel", "checkOf", "([III)I"⟩, prog_12_method_10_code, 7, (some .int))
abbrev mi_M_makeBit : mI := (⟨"PacketFieldModel", "makeBit", "(I)V"⟩, prog_12_method_11_code, 2, none)
abbrev mi_M_makeByte : mI := (⟨"PacketFieldModel", "makeByte", "(I)V"⟩, prog_12_method_12_code, 3, none)
abbrev mi_M_makeFrame : mI := (⟨"PacketFieldModel", "makeFrame", "([III)V"⟩, prog_12_method_14_code, 5, none)
abbrev mi_M_bits : mI := (⟨"PacketFieldModel", "bits", "(I)I"⟩, prog_12_method_15_code, 5, (some .int))
abbrev mi_M_reset : mI := (⟨"PacketFieldModel", "reset", "(I)V"⟩, prog_12_method_56_code, 2, none)
abbrev mi_M_clear : mI := (⟨"PacketFieldModel", "clear", "(I)V"⟩, prog_12_method_58_code, 2, none)
abbrev mi_M_say : mI := (⟨"PacketFieldModel", "say", "(IIZI)V"⟩, prog_12_method_51_code, 6, none)
abbrev mi_M_called : mI := (⟨"PacketFieldModel", "called", "(II)V"⟩, prog_12_method_59_code, 4, none)
abbrev mi_M_call : mI := (⟨"PacketFieldModel", "call", "(IIII)Z"⟩, prog_12_method_76_code, 5, (some .boolean))
abbrev mi_M_end : mI := (⟨"PacketFieldModel", "end", "(I)Z"⟩, prog_12_method_8_code, 2, (some .boolean))
abbrev mi_M_lay : mI := (⟨"PacketFieldModel", "lay", "(I)V"⟩, prog_12_method_6_code, 3, none)
abbrev mi_M_feed : mI := (⟨"PacketFieldModel", "feed", "(IIIII)Z"⟩, prog_12_method_7_code, 6, (some .boolean))
abbrev mi_M_give : mI := (⟨"PacketFieldModel", "give", "(II)I"⟩, prog_12_method_78_code, 6, (some .int))
abbrev mi_M_hears : mI := (⟨"PacketFieldModel", "hears", "(IIZ)Z"⟩, prog_12_method_22_code, 4, (some .boolean))
abbrev mi_M_init : mI := (⟨"PacketFieldModel", "<init>", "()V"⟩, prog_12_method_1_code, 4, none)
abbrev mi_M_leave : mI := (⟨"PacketFieldModel", "leave", "(II)Z"⟩, prog_12_method_77_code, 4, (some .boolean))
abbrev mi_M_keepLetter : mI := (⟨"PacketFieldModel", "keepLetter", "(I)V"⟩, prog_12_method_75_code, 4, none)
abbrev mi_M_packetComes : mI := (⟨"PacketFieldModel", "packetComes", "(I)V"⟩, prog_12_method_74_code, 7, none)
abbrev mi_M_letter2 : mI := (⟨"PacketFieldModel", "letter", "(II)I"⟩, prog_12_method_80_code, 6, (some .int))
abbrev mi_M_link : mI := (⟨"PacketFieldModel", "link", "(III)I"⟩, prog_12_method_83_code, 5, (some .int))
abbrev mi_M_out : mI := (⟨"PacketFieldModel", "out", "(I)I"⟩, prog_12_method_9_code, 2, (some .int))
abbrev mi_M_queued : mI := (⟨"PacketFieldModel", "queued", "(III)I"⟩, prog_12_method_28_code, 5, (some .int))
abbrev mi_M_raw : mI := (⟨"PacketFieldModel", "raw", "(I)Z"⟩, prog_12_method_27_code, 4, (some .boolean))
abbrev mi_M_isBusy : mI := (⟨"PacketFieldModel", "isBusy", "(I)Z"⟩, prog_12_method_48_code, 2, (some .boolean))
abbrev mi_M_sayNumber : mI := (⟨"PacketFieldModel", "sayNumber", "(IIZIZ)V"⟩, prog_12_method_53_code, 6, none)
abbrev mi_M_read : mI := (⟨"PacketFieldModel", "read", "(III)I"⟩, prog_12_method_79_code, 8, (some .int))
abbrev mi_M_route : mI := (⟨"PacketFieldModel", "route", "(IIII)I"⟩, prog_12_method_84_code, 6, (some .int))
abbrev mi_M_goDown : mI := (⟨"PacketFieldModel", "goDown", "(I)V"⟩, prog_12_method_57_code, 2, none)
abbrev mi_M_ready : mI := (⟨"PacketFieldModel", "ready", "(I)I"⟩, prog_12_method_54_code, 2, (some .int))
abbrev mi_M_clockGoes : mI := (⟨"PacketFieldModel", "clockGoes", "(II)V"⟩, prog_12_method_66_code, 4, none)
abbrev mi_M_lineIs : mI := (⟨"PacketFieldModel", "lineIs", "(I)V"⟩, prog_12_method_29_code, 3, none)
abbrev mi_M_draws : mI := (⟨"PacketFieldModel", "draws", "(I)V"⟩, prog_12_method_30_code, 4, none)
abbrev mi_M_hash : mI := (⟨"PacketFieldModel", "hash", "(II)I"⟩, prog_12_method_33_code, 3, (some .int))
abbrev mi_M_comes : mI := (⟨"PacketFieldModel", "comes", "(II)V"⟩, prog_12_method_16_code, 3, none)
abbrev mi_M_isFrame : mI := (⟨"PacketFieldModel", "isFrame", "(I)Z"⟩, prog_12_method_17_code, 5, (some .boolean))
abbrev mi_M_hear : mI := (⟨"PacketFieldModel", "hear", "(II)Z"⟩, prog_12_method_18_code, 5, (some .boolean))
abbrev mi_M_hearNothing : mI := (⟨"PacketFieldModel", "hearNothing", "(I)V"⟩, prog_12_method_19_code, 2, none)
abbrev mi_M_isStray : mI := (⟨"PacketFieldModel", "isStray", "(I)Z"⟩, prog_12_method_34_code, 5, (some .boolean))
abbrev mi_M_listens : mI := (⟨"PacketFieldModel", "listens", "(I)Z"⟩, prog_12_method_35_code, 4, (some .boolean))
abbrev mi_M_dropOut : mI := (⟨"PacketFieldModel", "dropOut", "(II)V"⟩, prog_12_method_69_code, 4, none)
abbrev mi_M_dropPacket : mI := (⟨"PacketFieldModel", "dropPacket", "(I)V"⟩, prog_12_method_68_code, 4, none)
abbrev mi_M_sayAgain : mI := (⟨"PacketFieldModel", "sayAgain", "(III)V"⟩, prog_12_method_55_code, 6, none)
abbrev mi_M_maySay : mI := (⟨"PacketFieldModel", "maySay", "(II)V"⟩, prog_12_method_67_code, 9, none)
abbrev mi_M_takesFrame : mI := (⟨"PacketFieldModel", "takesFrame", "(I)V"⟩, prog_12_method_31_code, 6, none)
abbrev mi_M_sends : mI := (⟨"PacketFieldModel", "sends", "(I)V"⟩, prog_12_method_32_code, 3, none)
abbrev mi_M_answer : mI := (⟨"PacketFieldModel", "answer", "(II)V"⟩, prog_12_method_52_code, 4, none)
abbrev mi_M_comesUp : mI := (⟨"PacketFieldModel", "comesUp", "(II)V"⟩, prog_12_method_61_code, 5, none)
abbrev mi_M_again : mI := (⟨"PacketFieldModel", "again", "(II)V"⟩, prog_12_method_62_code, 5, none)
abbrev mi_M_supervised : mI := (⟨"PacketFieldModel", "supervised", "(IIII)V"⟩, prog_12_method_64_code, 5, none)
abbrev mi_M_told : mI := (⟨"PacketFieldModel", "told", "(III)V"⟩, prog_12_method_65_code, 7, none)
abbrev mi_M_numbered : mI := (⟨"PacketFieldModel", "numbered", "(III)V"⟩, prog_12_method_63_code, 8, none)
abbrev mi_M_answers : mI := (⟨"PacketFieldModel", "answers", "(I)V"⟩, prog_12_method_60_code, 3, none)
abbrev mi_M_areUnlike : mI := (⟨"PacketFieldModel", "areUnlike", "()Z"⟩, prog_12_method_43_code, 3, (some .boolean))
abbrev mi_M_addressAt : mI := (⟨"PacketFieldModel", "addressAt", "(I)I"⟩, prog_12_method_41_code, 5, (some .int))
abbrev mi_M_hasAddresses : mI := (⟨"PacketFieldModel", "hasAddresses", "()Z"⟩, prog_12_method_42_code, 3, (some .boolean))
abbrev mi_M_hasRoutes : mI := (⟨"PacketFieldModel", "hasRoutes", "()Z"⟩, prog_12_method_44_code, 4, (some .boolean))
abbrev mi_M_isNumbered : mI := (⟨"PacketFieldModel", "isNumbered", "(I)Z"⟩, prog_12_method_45_code, 1, (some .boolean))
abbrev mi_M_isRight : mI := (⟨"PacketFieldModel", "isRight", "()Z"⟩, prog_12_method_46_code, 3, (some .boolean))
abbrev mi_M_learn : mI := (⟨"PacketFieldModel", "learn", "(IIII)V"⟩, prog_12_method_72_code, 5, none)
abbrev mi_M_learns : mI := (⟨"PacketFieldModel", "learns", "(I)V"⟩, prog_12_method_73_code, 4, none)
abbrev mi_M_taken : mI := (⟨"PacketFieldModel", "taken", "(I)V"⟩, prog_12_method_47_code, 4, none)
abbrev mi_M_tick : mI := (⟨"PacketFieldModel", "tick", "()I"⟩, prog_12_method_36_code, 4, (some .int))
abbrev mi_M_run : mI := (⟨"PacketFieldModel", "run", "(I)I"⟩, prog_12_method_37_code, 4, (some .int))
abbrev mi_M_station : mI := (⟨"PacketFieldModel", "station", "(II)I"⟩, prog_12_method_39_code, 3, (some .int))
abbrev mi_M_take : mI := (⟨"PacketFieldModel", "take", "(I)I"⟩, prog_12_method_81_code, 5, (some .int))
abbrev mi_M_time : mI := (⟨"PacketFieldModel", "time", "()I"⟩, prog_12_method_38_code, 1, (some .int))
abbrev mi_M_may : mI := (⟨"PacketFieldModel", "may", "(II)Z"⟩, prog_12_method_23_code, 2, (some .boolean))
abbrev mi_M_tune : mI := (⟨"PacketFieldModel", "tune", "(III)Z"⟩, prog_12_method_24_code, 4, (some .boolean))
abbrev mi_M_unbits : mI := (⟨"PacketFieldModel", "unbits", "()I"⟩, prog_12_method_20_code, 4, (some .int))
abbrev mi_L_law : mI := (⟨"PacketFieldLaw", "law", "([I)Z"⟩, code, 4, (some .boolean))
theorem mo_C_1 : Cond.methodLink "PacketField" 1 Lib.objectInit ∈ mtb := mtb_in (tb_1 (List.mem_of_getElem? (i := 20) rfl)) rfl
theorem im_obj : Cond.instanceMethod Lib.objectInit ∈ mtb := mtb_in (tb_1 (List.mem_of_getElem? (i := 21) rfl)) rfl
theorem cd_obj : Cond.code Lib.objectInit ⟨#[0xb1]⟩ 1 none ∈ mtb := mtb_in (tb_1 (List.mem_of_getElem? (i := 22) rfl)) rfl
theorem cl_C_9 : Cond.classLink "PacketField" 9 RX8 ∈ mtb := mtb_in (tb_1 (List.mem_of_getElem? (i := 23) rfl)) rfl
theorem ao_2 : Cond.arrayOver (.object "PacketField$Station") ∈ mnw := List.mem_of_getElem? (i := 0) rfl
theorem fp_C_11 : mFp "PacketField" 11 9 0 := ⟨_, _, _, mcl_9, by decide, mtb_in (tb_2 (List.mem_of_getElem? (i := 148) rfl)) rfl, Or.inr ⟨rfl, rfl⟩⟩
theorem ik_8 : Cond.instantiable RX8 18 ∈ mtb := mtb_in (tb_1 (List.mem_of_getElem? (i := 25) rfl)) rfl
theorem ii_8 : Cond.initialized RX8 ∈ mtb := mtb_in (tb_1 (List.mem_of_getElem? (i := 2) rfl)) rfl
theorem dz_8 : ∀ j, j < 18 → defaultValue (mft 8 j) = if mfr 8 j = true then .null else .int 0 := by decide +kernel
theorem cd_N_init : mCd mi_N_init 1 := ⟨mtb_in (tb_1 (List.mem_of_getElem? (i := 28) rfl)) rfl, mtb_in (tb_1 (List.mem_of_getElem? (i := 2) rfl)) rfl, by decide, by decide, by decide, by decide +kernel⟩
theorem ml_C_15 : Cond.methodLink "PacketField" 15 mi_N_init.1 ∈ mtb := mtb_in (tb_1 (List.mem_of_getElem? (i := 26) rfl)) rfl
theorem im_N_init : Cond.instanceMethod mi_N_init.1 ∈ mtb := mtb_in (tb_1 (List.mem_of_getElem? (i := 27) rfl)) rfl
theorem cl_C_27 : Cond.classLink "PacketField" 27 RX0 ∈ mtb := mtb_in (tb_2 (List.mem_of_getElem? (i := 86) rfl)) rfl
theorem ik_0 : Cond.instantiable RX0 2 ∈ mtb := mtb_in (tb_1 (List.mem_of_getElem? (i := 39) rfl)) rfl
theorem ii_0 : Cond.initialized RX0 ∈ mtb := mtb_in (tb_1 (List.mem_of_getElem? (i := 4) rfl)) rfl
theorem dz_0 : ∀ j, j < 2 → defaultValue (mft 0 j) = if mfr 0 j = true then .null else .int 0 := by decide +kernel
theorem cd_B_init : mCd mi_B_init 1 := ⟨mtb_in (tb_1 (List.mem_of_getElem? (i := 42) rfl)) rfl, mtb_in (tb_1 (List.mem_of_getElem? (i := 4) rfl)) rfl, by decide, by decide, by decide, by decide +kernel⟩
theorem ml_C_29 : Cond.methodLink "PacketField" 29 mi_B_init.1 ∈ mtb := mtb_in (tb_2 (List.mem_of_getElem? (i := 87) rfl)) rfl
theorem im_B_init : Cond.instanceMethod mi_B_init.1 ∈ mtb := mtb_in (tb_1 (List.mem_of_getElem? (i := 41) rfl)) rfl
theorem fp_C_30 : mFp "PacketField" 30 9 1 := ⟨_, _, _, mcl_9, by decide, mtb_in (tb_2 (List.mem_of_getElem? (i := 149) rfl)) rfl, Or.inr ⟨rfl, rfl⟩⟩
theorem fp_C_34 : mFp "PacketField" 34 9 2 := ⟨_, _, _, mcl_9, by decide, mtb_in (tb_2 (List.mem_of_getElem? (i := 150) rfl)) rfl, Or.inr ⟨rfl, rfl⟩⟩
theorem cl_C_37 : Cond.classLink "PacketField" 37 RX7 ∈ mtb := mtb_in (tb_2 (List.mem_of_getElem? (i := 88) rfl)) rfl
theorem ik_7 : Cond.instantiable RX7 7 ∈ mtb := mtb_in (tb_1 (List.mem_of_getElem? (i := 33) rfl)) rfl
theorem ii_7 : Cond.initialized RX7 ∈ mtb := mtb_in (tb_1 (List.mem_of_getElem? (i := 3) rfl)) rfl
theorem dz_7 : ∀ j, j < 7 → defaultValue (mft 7 j) = if mfr 7 j = true then .null else .int 0 := by decide +kernel
theorem cd_S_init : mCd mi_S_init 0 := ⟨mtb_in (tb_1 (List.mem_of_getElem? (i := 36) rfl)) rfl, mtb_in (tb_1 (List.mem_of_getElem? (i := 3) rfl)) rfl, by decide, by decide, by decide, by decide +kernel⟩
theorem ml_C_39 : Cond.methodLink "PacketField" 39 mi_S_init.1 ∈ mtb := mtb_in (tb_2 (List.mem_of_getElem? (i := 89) rfl)) rfl
theorem im_S_init : Cond.instanceMethod mi_S_init.1 ∈ mtb := mtb_in (tb_1 (List.mem_of_getElem? (i := 35) rfl)) rfl
theorem fp_C_40 : mFp "PacketField" 40 9 3 := ⟨_, _, _, mcl_9, by decide, mtb_in (tb_2 (List.mem_of_getElem? (i := 151) rfl)) rfl, Or.inr ⟨rfl, rfl⟩⟩
theorem cl_C_44 : Cond.classLink "PacketField" 44 RX4 ∈ mtb := mtb_in (tb_2 (List.mem_of_getElem? (i := 90) rfl)) rfl
theorem ik_4 : Cond.instantiable RX4 6 ∈ mtb := mtb_in (tb_1 (List.mem_of_getElem? (i := 85) rfl)) rfl
theorem ii_4 : Cond.initialized RX4 ∈ mtb := mtb_in (tb_1 (List.mem_of_getElem? (i := 6) rfl)) rfl
theorem dz_4 : ∀ j, j < 6 → defaultValue (mft 4 j) = if mfr 4 j = true then .null else .int 0 := by decide +kernel
theorem cd_V_init : mCd mi_V_init 0 := ⟨mtb_in (tb_1 (List.mem_of_getElem? (i := 88) rfl)) rfl, mtb_in (tb_1 (List.mem_of_getElem? (i := 6) rfl)) rfl, by decide, by decide, by decide, by decide +kernel⟩
theorem ml_C_46 : Cond.methodLink "PacketField" 46 mi_V_init.1 ∈ mtb := mtb_in (tb_2 (List.mem_of_getElem? (i := 91) rfl)) rfl
theorem im_V_init : Cond.instanceMethod mi_V_init.1 ∈ mtb := mtb_in (tb_1 (List.mem_of_getElem? (i := 87) rfl)) rfl
theorem fp_C_47 : mFp "PacketField" 47 9 4 := ⟨_, _, _, mcl_9, by decide, mtb_in (tb_2 (List.mem_of_getElem? (i := 152) rfl)) rfl, Or.inr ⟨rfl, rfl⟩⟩
theorem fp_C_51 : mFp "PacketField" 51 9 5 := ⟨_, _, _, mcl_9, by decide, mtb_in (tb_2 (List.mem_of_getElem? (i := 153) rfl)) rfl, Or.inr ⟨rfl, rfl⟩⟩
theorem cl_C_54 : Cond.classLink "PacketField" 54 RX1 ∈ mtb := mtb_in (tb_2 (List.mem_of_getElem? (i := 92) rfl)) rfl
theorem ik_1 : Cond.instantiable RX1 12 ∈ mtb := mtb_in (tb_2 (List.mem_of_getElem? (i := 93) rfl)) rfl
theorem ii_1 : Cond.initialized RX1 ∈ mtb := mtb_in (tb_1 (List.mem_of_getElem? (i := 11) rfl)) rfl
theorem dz_1 : ∀ j, j < 12 → defaultValue (mft 1 j) = if mfr 1 j = true then .null else .int 0 := by decide +kernel
theorem mn_C_56 : Cond.methodLinkNest "PacketField" 56 mi_F_init.1 "PacketField" ∈ mnw := List.mem_of_getElem? (i := 5) rfl
theorem cd_F_init : mCd mi_F_init 0 := ⟨mtb_in (tb_2 (List.mem_of_getElem? (i := 96) rfl)) rfl, mtb_in (tb_1 (List.mem_of_getElem? (i := 11) rfl)) rfl, by decide, by decide, by decide, by decide +kernel⟩
theorem im_F_init : Cond.instanceMethod mi_F_init.1 ∈ mtb := mtb_in (tb_2 (List.mem_of_getElem? (i := 95) rfl)) rfl
theorem fp_C_57 : mFp "PacketField" 57 9 6 := ⟨_, _, _, mcl_9, by decide, mtb_in (tb_2 (List.mem_of_getElem? (i := 154) rfl)) rfl, Or.inr ⟨rfl, rfl⟩⟩
theorem fl_C_18 : mFd "PacketField" 18 8 6 := ⟨_, _, _, mcl_8, by decide, mtb_in (tb_1 (List.mem_of_getElem? (i := 164) rfl)) rfl⟩
theorem cl_C_22 : Cond.classLink "PacketField" 22 RX2 ∈ mtb := mtb_in (tb_1 (List.mem_of_getElem? (i := 217) rfl)) rfl
theorem ik_2 : Cond.instantiable RX2 18 ∈ mtb := mtb_in (tb_1 (List.mem_of_getElem? (i := 218) rfl)) rfl
theorem ii_2 : Cond.initialized RX2 ∈ mtb := mtb_in (tb_1 (List.mem_of_getElem? (i := 9) rfl)) rfl
theorem dz_2 : ∀ j, j < 18 → defaultValue (mft 2 j) = if mfr 2 j = true then .null else .int 0 := by decide +kernel
theorem cd_K_init : mCd mi_K_init 2 := ⟨mtb_in (tb_1 (List.mem_of_getElem? (i := 221) rfl)) rfl, mtb_in (tb_1 (List.mem_of_getElem? (i := 9) rfl)) rfl, by decide, by decide, by decide, by decide +kernel⟩
theorem ml_C_24 : Cond.methodLink "PacketField" 24 mi_K_init.1 ∈ mtb := mtb_in (tb_1 (List.mem_of_getElem? (i := 219) rfl)) rfl
theorem im_K_init : Cond.instanceMethod mi_K_init.1 ∈ mtb := mtb_in (tb_1 (List.mem_of_getElem? (i := 220) rfl)) rfl
theorem fl_C_11 : mFd "PacketField" 11 9 0 := ⟨_, _, _, mcl_9, by decide, mtb_in (tb_2 (List.mem_of_getElem? (i := 148) rfl)) rfl⟩
theorem mo_N_3 : Cond.methodLink "PacketField$Station" 3 Lib.objectInit ∈ mtb := mtb_in (tb_1 (List.mem_of_getElem? (i := 29) rfl)) rfl
theorem fp_N_9 : mFp "PacketField$Station" 9 8 0 := ⟨_, _, _, mcl_8, by decide, mtb_in (tb_1 (List.mem_of_getElem? (i := 152) rfl)) rfl, Or.inr ⟨rfl, rfl⟩⟩
theorem gn_N_15 : Cond.fieldLinkNest "PacketField$Station" 15 "PacketField" "LEAST" "[I" "PacketField" ∈ mnw := List.mem_of_getElem? (i := 1) rfl
theorem ac_0 : Cond.arrayClass .int ∈ mtb := mtb_in (tb_1 (List.mem_of_getElem? (i := 60) rfl)) rfl
theorem fp_N_19 : mFp "PacketField$Station" 19 8 1 := ⟨_, _, _, mcl_8, by decide, mtb_in (tb_1 (List.mem_of_getElem? (i := 154) rfl)) rfl, Or.inr ⟨rfl, rfl⟩⟩
theorem fl_N_19 : mFd "PacketField$Station" 19 8 1 := ⟨_, _, _, mcl_8, by decide, mtb_in (tb_1 (List.mem_of_getElem? (i := 154) rfl)) rfl⟩
theorem cl_N_22 : Cond.classLink "PacketField$Station" 22 RX7 ∈ mtb := mtb_in (tb_1 (List.mem_of_getElem? (i := 32) rfl)) rfl
theorem ml_N_24 : Cond.methodLink "PacketField$Station" 24 mi_S_init.1 ∈ mtb := mtb_in (tb_1 (List.mem_of_getElem? (i := 34) rfl)) rfl
theorem fp_N_25 : mFp "PacketField$Station" 25 8 2 := ⟨_, _, _, mcl_8, by decide, mtb_in (tb_1 (List.mem_of_getElem? (i := 156) rfl)) rfl, Or.inr ⟨rfl, rfl⟩⟩
theorem cl_N_29 : Cond.classLink "PacketField$Station" 29 RX4 ∈ mtb := mtb_in (tb_1 (List.mem_of_getElem? (i := 84) rfl)) rfl
theorem ml_N_31 : Cond.methodLink "PacketField$Station" 31 mi_V_init.1 ∈ mtb := mtb_in (tb_1 (List.mem_of_getElem? (i := 86) rfl)) rfl
theorem fp_N_32 : mFp "PacketField$Station" 32 8 3 := ⟨_, _, _, mcl_8, by decide, mtb_in (tb_1 (List.mem_of_getElem? (i := 158) rfl)) rfl, Or.inr ⟨rfl, rfl⟩⟩
theorem cl_N_36 : Cond.classLink "PacketField$Station" 36 RX6 ∈ mtb := mtb_in (tb_1 (List.mem_of_getElem? (i := 112) rfl)) rfl
theorem ik_6 : Cond.instantiable RX6 3 ∈ mtb := mtb_in (tb_1 (List.mem_of_getElem? (i := 113) rfl)) rfl
theorem ii_6 : Cond.initialized RX6 ∈ mtb := mtb_in (tb_1 (List.mem_of_getElem? (i := 7) rfl)) rfl
theorem dz_6 : ∀ j, j < 3 → defaultValue (mft 6 j) = if mfr 6 j = true then .null else .int 0 := by decide +kernel
theorem cd_W_init : mCd mi_W_init 2 := ⟨mtb_in (tb_1 (List.mem_of_getElem? (i := 116) rfl)) rfl, mtb_in (tb_1 (List.mem_of_getElem? (i := 7) rfl)) rfl, by decide, by decide, by decide, by decide +kernel⟩
theorem ml_N_38 : Cond.methodLink "PacketField$Station" 38 mi_W_init.1 ∈ mtb := mtb_in (tb_1 (List.mem_of_getElem? (i := 114) rfl)) rfl
theorem im_W_init : Cond.instanceMethod mi_W_init.1 ∈ mtb := mtb_in (tb_1 (List.mem_of_getElem? (i := 115) rfl)) rfl
theorem fp_N_41 : mFp "PacketField$Station" 41 8 4 := ⟨_, _, _, mcl_8, by decide, mtb_in (tb_1 (List.mem_of_getElem? (i := 160) rfl)) rfl, Or.inr ⟨rfl, rfl⟩⟩
theorem fp_N_45 : mFp "PacketField$Station" 45 8 5 := ⟨_, _, _, mcl_8, by decide, mtb_in (tb_1 (List.mem_of_getElem? (i := 162) rfl)) rfl, Or.inr ⟨rfl, rfl⟩⟩
theorem cl_N_48 : Cond.classLink "PacketField$Station" 48 RX2 ∈ mtb := mtb_in (tb_1 (List.mem_of_getElem? (i := 134) rfl)) rfl
theorem ao_1 : Cond.arrayOver (.object "PacketField$Link") ∈ mnw := List.mem_of_getElem? (i := 3) rfl
theorem fp_N_50 : mFp "PacketField$Station" 50 8 6 := ⟨_, _, _, mcl_8, by decide, mtb_in (tb_1 (List.mem_of_getElem? (i := 165) rfl)) rfl, Or.inr ⟨rfl, rfl⟩⟩
theorem cl_N_54 : Cond.classLink "PacketField$Station" 54 RX5 ∈ mtb := mtb_in (tb_1 (List.mem_of_getElem? (i := 136) rfl)) rfl
theorem ik_5 : Cond.instantiable RX5 3 ∈ mtb := mtb_in (tb_1 (List.mem_of_getElem? (i := 137) rfl)) rfl
theorem ii_5 : Cond.initialized RX5 ∈ mtb := mtb_in (tb_1 (List.mem_of_getElem? (i := 8) rfl)) rfl
theorem dz_5 : ∀ j, j < 3 → defaultValue (mft 5 j) = if mfr 5 j = true then .null else .int 0 := by decide +kernel
theorem cd_T_init : mCd mi_T_init 1 := ⟨mtb_in (tb_1 (List.mem_of_getElem? (i := 140) rfl)) rfl, mtb_in (tb_1 (List.mem_of_getElem? (i := 8) rfl)) rfl, by decide, by decide, by decide, by decide +kernel⟩
theorem ml_N_56 : Cond.methodLink "PacketField$Station" 56 mi_T_init.1 ∈ mtb := mtb_in (tb_1 (List.mem_of_getElem? (i := 138) rfl)) rfl
theorem im_T_init : Cond.instanceMethod mi_T_init.1 ∈ mtb := mtb_in (tb_1 (List.mem_of_getElem? (i := 139) rfl)) rfl
theorem fp_N_59 : mFp "PacketField$Station" 59 8 7 := ⟨_, _, _, mcl_8, by decide, mtb_in (tb_1 (List.mem_of_getElem? (i := 166) rfl)) rfl, Or.inr ⟨rfl, rfl⟩⟩
theorem fp_N_63 : mFp "PacketField$Station" 63 8 8 := ⟨_, _, _, mcl_8, by decide, mtb_in (tb_1 (List.mem_of_getElem? (i := 168) rfl)) rfl, Or.inl rfl⟩
theorem mo_S_3 : Cond.methodLink "PacketField$Sender" 3 Lib.objectInit ∈ mtb := mtb_in (tb_1 (List.mem_of_getElem? (i := 37) rfl)) rfl
theorem cl_S_9 : Cond.classLink "PacketField$Sender" 9 RX0 ∈ mtb := mtb_in (tb_1 (List.mem_of_getElem? (i := 38) rfl)) rfl
theorem ml_S_11 : Cond.methodLink "PacketField$Sender" 11 mi_B_init.1 ∈ mtb := mtb_in (tb_1 (List.mem_of_getElem? (i := 40) rfl)) rfl
theorem fp_S_14 : mFp "PacketField$Sender" 14 7 0 := ⟨_, _, _, mcl_7, by decide, mtb_in (tb_1 (List.mem_of_getElem? (i := 61) rfl)) rfl, Or.inr ⟨rfl, rfl⟩⟩
theorem mo_B_3 : Cond.methodLink "PacketField$Bytes" 3 Lib.objectInit ∈ mtb := mtb_in (tb_1 (List.mem_of_getElem? (i := 43) rfl)) rfl
theorem mm_B_9 : Cond.methodLink "PacketField$Bytes" 9 Lib.Math.max.name ∈ mtb := mtb_in (tb_1 (List.mem_of_getElem? (i := 44) rfl)) rfl
theorem ms_max : Cond.static Lib.Math.max.name ∈ mtb := mtb_in (tb_1 (List.mem_of_getElem? (i := 45) rfl)) rfl
theorem mi_math : Cond.initialized "java/lang/Math" ∈ mtb := mtb_in (tb_1 (List.mem_of_getElem? (i := 5) rfl)) rfl
theorem mc_max : Cond.code Lib.Math.max.name Lib.Math.max.code 2 (some .int) ∈ mtb := mtb_in (tb_1 (List.mem_of_getElem? (i := 46) (by decide +kernel))) rfl
theorem fp_B_15 : mFp "PacketField$Bytes" 15 0 0 := ⟨_, _, _, mcl_0, by decide, mtb_in (tb_1 (List.mem_of_getElem? (i := 47) rfl)) rfl, Or.inr ⟨rfl, rfl⟩⟩
theorem mo_V_3 : Cond.methodLink "PacketField$Receiver" 3 Lib.objectInit ∈ mtb := mtb_in (tb_1 (List.mem_of_getElem? (i := 89) rfl)) rfl
theorem cl_V_9 : Cond.classLink "PacketField$Receiver" 9 RX0 ∈ mtb := mtb_in (tb_1 (List.mem_of_getElem? (i := 90) rfl)) rfl
theorem ml_V_13 : Cond.methodLink "PacketField$Receiver" 13 mi_B_init.1 ∈ mtb := mtb_in (tb_1 (List.mem_of_getElem? (i := 91) rfl)) rfl
theorem fp_V_16 : mFp "PacketField$Receiver" 16 4 0 := ⟨_, _, _, mcl_4, by decide, mtb_in (tb_1 (List.mem_of_getElem? (i := 92) rfl)) rfl, Or.inr ⟨rfl, rfl⟩⟩
theorem fp_V_20 : mFp "PacketField$Receiver" 20 4 5 := ⟨_, _, _, mcl_4, by decide, mtb_in (tb_1 (List.mem_of_getElem? (i := 97) rfl)) rfl, Or.inr ⟨rfl, rfl⟩⟩
theorem mo_W_1 : Cond.methodLink "PacketField$Rows" 1 Lib.objectInit ∈ mtb := mtb_in (tb_1 (List.mem_of_getElem? (i := 117) rfl)) rfl
theorem mm_W_7 : Cond.methodLink "PacketField$Rows" 7 Lib.Math.max.name ∈ mtb := mtb_in (tb_1 (List.mem_of_getElem? (i := 118) rfl)) rfl
theorem cl_W_13 : Cond.classLink "PacketField$Rows" 13 RX0 ∈ mtb := mtb_in (tb_1 (List.mem_of_getElem? (i := 119) rfl)) rfl
theorem ao_0 : Cond.arrayOver (.object "PacketField$Bytes") ∈ mnw := List.mem_of_getElem? (i := 2) rfl
theorem fp_W_15 : mFp "PacketField$Rows" 15 6 0 := ⟨_, _, _, mcl_6, by decide, mtb_in (tb_1 (List.mem_of_getElem? (i := 122) rfl)) rfl, Or.inr ⟨rfl, rfl⟩⟩
theorem fl_W_15 : mFd "PacketField$Rows" 15 6 0 := ⟨_, _, _, mcl_6, by decide, mtb_in (tb_1 (List.mem_of_getElem? (i := 122) rfl)) rfl⟩
theorem ml_W_21 : Cond.methodLink "PacketField$Rows" 21 mi_B_init.1 ∈ mtb := mtb_in (tb_1 (List.mem_of_getElem? (i := 121) rfl)) rfl
theorem mo_T_3 : Cond.methodLink "PacketField$Routes" 3 Lib.objectInit ∈ mtb := mtb_in (tb_1 (List.mem_of_getElem? (i := 141) rfl)) rfl
theorem fp_T_9 : mFp "PacketField$Routes" 9 5 0 := ⟨_, _, _, mcl_5, by decide, mtb_in (tb_1 (List.mem_of_getElem? (i := 142) rfl)) rfl, Or.inr ⟨rfl, rfl⟩⟩
theorem fp_T_15 : mFp "PacketField$Routes" 15 5 1 := ⟨_, _, _, mcl_5, by decide, mtb_in (tb_1 (List.mem_of_getElem? (i := 143) rfl)) rfl, Or.inr ⟨rfl, rfl⟩⟩
theorem fp_T_19 : mFp "PacketField$Routes" 19 5 2 := ⟨_, _, _, mcl_5, by decide, mtb_in (tb_1 (List.mem_of_getElem? (i := 144) rfl)) rfl, Or.inr ⟨rfl, rfl⟩⟩
theorem mo_K_3 : Cond.methodLink "PacketField$Link" 3 Lib.objectInit ∈ mtb := mtb_in (tb_1 (List.mem_of_getElem? (i := 222) rfl)) rfl
theorem fp_K_9 : mFp "PacketField$Link" 9 2 0 := ⟨_, _, _, mcl_2, by decide, mtb_in (tb_2 (List.mem_of_getElem? (i := 15) rfl)) rfl, Or.inr ⟨rfl, rfl⟩⟩
theorem fp_K_15 : mFp "PacketField$Link" 15 2 1 := ⟨_, _, _, mcl_2, by decide, mtb_in (tb_2 (List.mem_of_getElem? (i := 17) rfl)) rfl, Or.inr ⟨rfl, rfl⟩⟩
theorem cl_K_19 : Cond.classLink "PacketField$Link" 19 RX3 ∈ mtb := mtb_in (tb_1 (List.mem_of_getElem? (i := 223) rfl)) rfl
theorem ik_3 : Cond.instantiable RX3 4 ∈ mtb := mtb_in (tb_1 (List.mem_of_getElem? (i := 224) rfl)) rfl
theorem ii_3 : Cond.initialized RX3 ∈ mtb := mtb_in (tb_1 (List.mem_of_getElem? (i := 10) rfl)) rfl
theorem dz_3 : ∀ j, j < 4 → defaultValue (mft 3 j) = if mfr 3 j = true then .null else .int 0 := by decide +kernel
theorem mn_K_21 : Cond.methodLinkNest "PacketField$Link" 21 mi_P_init.1 "PacketField" ∈ mnw := List.mem_of_getElem? (i := 4) rfl
theorem cd_P_init : mCd mi_P_init 0 := ⟨mtb_in (tb_1 (List.mem_of_getElem? (i := 227) rfl)) rfl, mtb_in (tb_1 (List.mem_of_getElem? (i := 10) rfl)) rfl, by decide, by decide, by decide, by decide +kernel⟩
theorem im_P_init : Cond.instanceMethod mi_P_init.1 ∈ mtb := mtb_in (tb_1 (List.mem_of_getElem? (i := 226) rfl)) rfl
theorem fp_K_22 : mFp "PacketField$Link" 22 2 2 := ⟨_, _, _, mcl_2, by decide, mtb_in (tb_2 (List.mem_of_getElem? (i := 19) rfl)) rfl, Or.inr ⟨rfl, rfl⟩⟩
theorem fl_K_22 : mFd "PacketField$Link" 22 2 2 := ⟨_, _, _, mcl_2, by decide, mtb_in (tb_2 (List.mem_of_getElem? (i := 19) rfl)) rfl⟩
theorem fp_K_26 : mFp "PacketField$Link" 26 3 0 := ⟨_, _, _, mcl_3, by decide, mtb_in (tb_1 (List.mem_of_getElem? (i := 229) rfl)) rfl, Or.inl rfl⟩
theorem cl_K_29 : Cond.classLink "PacketField$Link" 29 RX0 ∈ mtb := mtb_in (tb_2 (List.mem_of_getElem? (i := 11) rfl)) rfl
theorem ml_K_31 : Cond.methodLink "PacketField$Link" 31 mi_B_init.1 ∈ mtb := mtb_in (tb_2 (List.mem_of_getElem? (i := 12) rfl)) rfl
theorem fp_K_34 : mFp "PacketField$Link" 34 2 3 := ⟨_, _, _, mcl_2, by decide, mtb_in (tb_2 (List.mem_of_getElem? (i := 21) rfl)) rfl, Or.inr ⟨rfl, rfl⟩⟩
theorem fp_K_38 : mFp "PacketField$Link" 38 2 4 := ⟨_, _, _, mcl_2, by decide, mtb_in (tb_2 (List.mem_of_getElem? (i := 23) rfl)) rfl, Or.inr ⟨rfl, rfl⟩⟩
theorem cl_K_41 : Cond.classLink "PacketField$Link" 41 RX6 ∈ mtb := mtb_in (tb_2 (List.mem_of_getElem? (i := 13) rfl)) rfl
theorem ml_K_43 : Cond.methodLink "PacketField$Link" 43 mi_W_init.1 ∈ mtb := mtb_in (tb_2 (List.mem_of_getElem? (i := 14) rfl)) rfl
theorem fp_K_46 : mFp "PacketField$Link" 46 2 5 := ⟨_, _, _, mcl_2, by decide, mtb_in (tb_2 (List.mem_of_getElem? (i := 25) rfl)) rfl, Or.inr ⟨rfl, rfl⟩⟩
theorem fp_K_50 : mFp "PacketField$Link" 50 2 6 := ⟨_, _, _, mcl_2, by decide, mtb_in (tb_2 (List.mem_of_getElem? (i := 27) rfl)) rfl, Or.inr ⟨rfl, rfl⟩⟩
theorem mo_P_3 : Cond.methodLink "PacketField$Path" 3 Lib.objectInit ∈ mtb := mtb_in (tb_1 (List.mem_of_getElem? (i := 228) rfl)) rfl
theorem fp_P_9 : mFp "PacketField$Path" 9 3 1 := ⟨_, _, _, mcl_3, by decide, mtb_in (tb_1 (List.mem_of_getElem? (i := 233) rfl)) rfl, Or.inl rfl⟩
theorem fp_P_15 : mFp "PacketField$Path" 15 3 2 := ⟨_, _, _, mcl_3, by decide, mtb_in (tb_1 (List.mem_of_getElem? (i := 236) rfl)) rfl, Or.inl rfl⟩
theorem mo_F_3 : Cond.methodLink "PacketField$Frame" 3 Lib.objectInit ∈ mtb := mtb_in (tb_2 (List.mem_of_getElem? (i := 97) rfl)) rfl
theorem cl_F_9 : Cond.classLink "PacketField$Frame" 9 RX3 ∈ mtb := mtb_in (tb_2 (List.mem_of_getElem? (i := 98) rfl)) rfl
theorem mn_F_11 : Cond.methodLinkNest "PacketField$Frame" 11 mi_P_init.1 "PacketField" ∈ mnw := List.mem_of_getElem? (i := 6) rfl
theorem fp_F_12 : mFp "PacketField$Frame" 12 1 11 := ⟨_, _, _, mcl_1, by decide, mtb_in (tb_2 (List.mem_of_getElem? (i := 121) rfl)) rfl, Or.inr ⟨rfl, rfl⟩⟩
theorem fl_C_30 : mFd "PacketField" 30 9 1 := ⟨_, _, _, mcl_9, by decide, mtb_in (tb_2 (List.mem_of_getElem? (i := 149) rfl)) rfl⟩
theorem fl_C_61 : mFd "PacketField" 61 0 1 := ⟨_, _, _, mcl_0, by decide, mtb_in (tb_1 (List.mem_of_getElem? (i := 49) rfl)) rfl⟩
theorem cd_B_addNumber : mCd mi_B_addNumber 1 := ⟨mtb_in (tb_2 (List.mem_of_getElem? (i := 189) rfl)) rfl, mtb_in (tb_1 (List.mem_of_getElem? (i := 4) rfl)) rfl, by decide, by decide, by decide, by decide +kernel⟩
theorem ml_C_65 : Cond.methodLink "PacketField" 65 mi_B_addNumber.1 ∈ mtb := mtb_in (tb_2 (List.mem_of_getElem? (i := 186) rfl)) rfl
theorem im_B_addNumber : Cond.instanceMethod mi_B_addNumber.1 ∈ mtb := mtb_in (tb_2 (List.mem_of_getElem? (i := 187) rfl)) rfl
theorem se_B_addNumber : Cond.selects mi_B_addNumber.1.cls mi_B_addNumber.1 mi_B_addNumber.1 ∈ mtb := mtb_in (tb_2 (List.mem_of_getElem? (i := 188) rfl)) rfl
theorem cd_B_add : mCd mi_B_add 1 := ⟨mtb_in (tb_2 (List.mem_of_getElem? (i := 193) rfl)) rfl, mtb_in (tb_1 (List.mem_of_getElem? (i := 4) rfl)) rfl, by decide, by decide, by decide, by decide +kernel⟩
theorem ml_B_25 : Cond.methodLink "PacketField$Bytes" 25 mi_B_add.1 ∈ mtb := mtb_in (tb_2 (List.mem_of_getElem? (i := 190) rfl)) rfl
theorem im_B_add : Cond.instanceMethod mi_B_add.1 ∈ mtb := mtb_in (tb_2 (List.mem_of_getElem? (i := 191) rfl)) rfl
theorem se_B_add : Cond.selects mi_B_add.1.cls mi_B_add.1 mi_B_add.1 ∈ mtb := mtb_in (tb_2 (List.mem_of_getElem? (i := 192) rfl)) rfl
theorem fl_B_21 : mFd "PacketField$Bytes" 21 0 1 := ⟨_, _, _, mcl_0, by decide, mtb_in (tb_1 (List.mem_of_getElem? (i := 48) rfl)) rfl⟩
theorem fl_B_15 : mFd "PacketField$Bytes" 15 0 0 := ⟨_, _, _, mcl_0, by decide, mtb_in (tb_1 (List.mem_of_getElem? (i := 47) rfl)) rfl⟩
theorem fp_B_21 : mFp "PacketField$Bytes" 21 0 1 := ⟨_, _, _, mcl_0, by decide, mtb_in (tb_1 (List.mem_of_getElem? (i := 48) rfl)) rfl, Or.inl rfl⟩
theorem fp_C_61 : mFp "PacketField" 61 0 1 := ⟨_, _, _, mcl_0, by decide, mtb_in (tb_1 (List.mem_of_getElem? (i := 49) rfl)) rfl, Or.inl rfl⟩
theorem fl_C_34 : mFd "PacketField" 34 9 2 := ⟨_, _, _, mcl_9, by decide, mtb_in (tb_2 (List.mem_of_getElem? (i := 150) rfl)) rfl⟩
theorem cd_B_at : mCd mi_B_at 1 := ⟨mtb_in (tb_2 (List.mem_of_getElem? (i := 205) rfl)) rfl, mtb_in (tb_1 (List.mem_of_getElem? (i := 4) rfl)) rfl, by decide, by decide, by decide, by decide +kernel⟩
theorem ml_C_68 : Cond.methodLink "PacketField" 68 mi_B_at.1 ∈ mtb := mtb_in (tb_2 (List.mem_of_getElem? (i := 202) rfl)) rfl
theorem im_B_at : Cond.instanceMethod mi_B_at.1 ∈ mtb := mtb_in (tb_2 (List.mem_of_getElem? (i := 203) rfl)) rfl
theorem se_B_at : Cond.selects mi_B_at.1.cls mi_B_at.1 mi_B_at.1 ∈ mtb := mtb_in (tb_2 (List.mem_of_getElem? (i := 204) rfl)) rfl
theorem cd_C_isFrame : mCd mi_C_isFrame 1 := ⟨mtb_in (tb_2 (List.mem_of_getElem? (i := 212) rfl)) rfl, mtb_in (tb_1 (List.mem_of_getElem? (i := 1) rfl)) rfl, by decide, by decide, by decide, by decide +kernel⟩
theorem ml_C_72 : Cond.methodLink "PacketField" 72 mi_C_isFrame.1 ∈ mtb := mtb_in (tb_2 (List.mem_of_getElem? (i := 210) rfl)) rfl
theorem sa_C_isFrame : Cond.static mi_C_isFrame.1 ∈ mtb := mtb_in (tb_2 (List.mem_of_getElem? (i := 211) rfl)) rfl
theorem cd_B_clear : mCd mi_B_clear 0 := ⟨mtb_in (tb_2 (List.mem_of_getElem? (i := 216) rfl)) rfl, mtb_in (tb_1 (List.mem_of_getElem? (i := 4) rfl)) rfl, by decide, by decide, by decide, by decide +kernel⟩
theorem ml_C_76 : Cond.methodLink "PacketField" 76 mi_B_clear.1 ∈ mtb := mtb_in (tb_2 (List.mem_of_getElem? (i := 213) rfl)) rfl
theorem im_B_clear : Cond.instanceMethod mi_B_clear.1 ∈ mtb := mtb_in (tb_2 (List.mem_of_getElem? (i := 214) rfl)) rfl
theorem se_B_clear : Cond.selects mi_B_clear.1.cls mi_B_clear.1 mi_B_clear.1 ∈ mtb := mtb_in (tb_2 (List.mem_of_getElem? (i := 215) rfl)) rfl
theorem fl_C_40 : mFd "PacketField" 40 9 3 := ⟨_, _, _, mcl_9, by decide, mtb_in (tb_2 (List.mem_of_getElem? (i := 151) rfl)) rfl⟩
theorem fp_C_79 : mFp "PacketField" 79 7 4 := ⟨_, _, _, mcl_7, by decide, mtb_in (tb_1 (List.mem_of_getElem? (i := 66) rfl)) rfl, Or.inl rfl⟩
theorem cd_S_startFlags : mCd mi_S_startFlags 1 := ⟨mtb_in (tb_2 (List.mem_of_getElem? (i := 220) rfl)) rfl, mtb_in (tb_1 (List.mem_of_getElem? (i := 3) rfl)) rfl, by decide, by decide, by decide, by decide +kernel⟩
theorem ml_C_82 : Cond.methodLink "PacketField" 82 mi_S_startFlags.1 ∈ mtb := mtb_in (tb_2 (List.mem_of_getElem? (i := 217) rfl)) rfl
theorem im_S_startFlags : Cond.instanceMethod mi_S_startFlags.1 ∈ mtb := mtb_in (tb_2 (List.mem_of_getElem? (i := 218) rfl)) rfl
theorem se_S_startFlags : Cond.selects mi_S_startFlags.1.cls mi_S_startFlags.1 mi_S_startFlags.1 ∈ mtb := mtb_in (tb_2 (List.mem_of_getElem? (i := 219) rfl)) rfl
theorem cd_C_putLevels : mCd mi_C_putLevels 0 := ⟨mtb_in (tb_2 (List.mem_of_getElem? (i := 225) rfl)) rfl, mtb_in (tb_1 (List.mem_of_getElem? (i := 1) rfl)) rfl, by decide, by decide, by decide, by decide +kernel⟩
theorem ml_C_85 : Cond.methodLink "PacketField" 85 mi_C_putLevels.1 ∈ mtb := mtb_in (tb_2 (List.mem_of_getElem? (i := 222) rfl)) rfl
theorem im_C_putLevels : Cond.instanceMethod mi_C_putLevels.1 ∈ mtb := mtb_in (tb_2 (List.mem_of_getElem? (i := 224) rfl)) rfl
theorem se_C_putLevels : Cond.selects mi_C_putLevels.1.cls mi_C_putLevels.1 mi_C_putLevels.1 ∈ mtb := mtb_in (List.mem_append_left _ (List.mem_of_getElem? (i := 0) (by decide +kernel))) rfl
theorem cd_S_startFrame : mCd mi_S_startFrame 1 := ⟨mtb_in (tb_3 (List.mem_of_getElem? (i := 3) rfl)) rfl, mtb_in (tb_1 (List.mem_of_getElem? (i := 3) rfl)) rfl, by decide, by decide, by decide, by decide +kernel⟩
theorem ml_C_88 : Cond.methodLink "PacketField" 88 mi_S_startFrame.1 ∈ mtb := mtb_in (tb_3 (List.mem_of_getElem? (i := 0) rfl)) rfl
theorem im_S_startFrame : Cond.instanceMethod mi_S_startFrame.1 ∈ mtb := mtb_in (tb_3 (List.mem_of_getElem? (i := 1) rfl)) rfl
theorem se_S_startFrame : Cond.selects mi_S_startFrame.1.cls mi_S_startFrame.1 mi_S_startFrame.1 ∈ mtb := mtb_in (tb_3 (List.mem_of_getElem? (i := 2) rfl)) rfl
theorem fl_S_14 : mFd "PacketField$Sender" 14 7 0 := ⟨_, _, _, mcl_7, by decide, mtb_in (tb_1 (List.mem_of_getElem? (i := 61) rfl)) rfl⟩
theorem ml_S_20 : Cond.methodLink "PacketField$Sender" 20 mi_B_clear.1 ∈ mtb := mtb_in (tb_2 (List.mem_of_getElem? (i := 221) rfl)) rfl
theorem fp_S_23 : mFp "PacketField$Sender" 23 7 1 := ⟨_, _, _, mcl_7, by decide, mtb_in (tb_1 (List.mem_of_getElem? (i := 62) rfl)) rfl, Or.inl rfl⟩
theorem fp_S_27 : mFp "PacketField$Sender" 27 7 2 := ⟨_, _, _, mcl_7, by decide, mtb_in (tb_1 (List.mem_of_getElem? (i := 63) rfl)) rfl, Or.inl rfl⟩
theorem fp_S_30 : mFp "PacketField$Sender" 30 7 3 := ⟨_, _, _, mcl_7, by decide, mtb_in (tb_1 (List.mem_of_getElem? (i := 64) rfl)) rfl, Or.inl rfl⟩
theorem cd_S_isThrough : mCd mi_S_isThrough 0 := ⟨mtb_in (tb_2 (List.mem_of_getElem? (i := 229) rfl)) rfl, mtb_in (tb_1 (List.mem_of_getElem? (i := 3) rfl)) rfl, by decide, by decide, by decide, by decide +kernel⟩
theorem ml_C_343 : Cond.methodLink "PacketField" 343 mi_S_isThrough.1 ∈ mtb := mtb_in (tb_2 (List.mem_of_getElem? (i := 226) rfl)) rfl
theorem im_S_isThrough : Cond.instanceMethod mi_S_isThrough.1 ∈ mtb := mtb_in (tb_2 (List.mem_of_getElem? (i := 227) rfl)) rfl
theorem se_S_isThrough : Cond.selects mi_S_isThrough.1.cls mi_S_isThrough.1 mi_S_isThrough.1 ∈ mtb := mtb_in (tb_2 (List.mem_of_getElem? (i := 228) rfl)) rfl
theorem cd_S_sendBit : mCd mi_S_sendBit 0 := ⟨mtb_in (tb_2 (List.mem_of_getElem? (i := 233) rfl)) rfl, mtb_in (tb_1 (List.mem_of_getElem? (i := 3) rfl)) rfl, by decide, by decide, by decide, by decide +kernel⟩
theorem ml_C_346 : Cond.methodLink "PacketField" 346 mi_S_sendBit.1 ∈ mtb := mtb_in (tb_2 (List.mem_of_getElem? (i := 230) rfl)) rfl
theorem im_S_sendBit : Cond.instanceMethod mi_S_sendBit.1 ∈ mtb := mtb_in (tb_2 (List.mem_of_getElem? (i := 231) rfl)) rfl
theorem se_S_sendBit : Cond.selects mi_S_sendBit.1.cls mi_S_sendBit.1 mi_S_sendBit.1 ∈ mtb := mtb_in (tb_2 (List.mem_of_getElem? (i := 232) rfl)) rfl
theorem fl_C_79 : mFd "PacketField" 79 7 4 := ⟨_, _, _, mcl_7, by decide, mtb_in (tb_1 (List.mem_of_getElem? (i := 66) rfl)) rfl⟩
theorem ml_C_207 : Cond.methodLink "PacketField" 207 mi_B_add.1 ∈ mtb := mtb_in (tb_2 (List.mem_of_getElem? (i := 239) rfl)) rfl
theorem fl_S_30 : mFd "PacketField$Sender" 30 7 3 := ⟨_, _, _, mcl_7, by decide, mtb_in (tb_1 (List.mem_of_getElem? (i := 64) rfl)) rfl⟩
theorem cd_S_nextBit : mCd mi_S_nextBit 0 := ⟨mtb_in (tb_2 (List.mem_of_getElem? (i := 237) rfl)) rfl, mtb_in (tb_1 (List.mem_of_getElem? (i := 3) rfl)) rfl, by decide, by decide, by decide, by decide +kernel⟩
theorem ml_S_50 : Cond.methodLink "PacketField$Sender" 50 mi_S_nextBit.1 ∈ mtb := mtb_in (tb_2 (List.mem_of_getElem? (i := 234) rfl)) rfl
theorem im_S_nextBit : Cond.instanceMethod mi_S_nextBit.1 ∈ mtb := mtb_in (tb_2 (List.mem_of_getElem? (i := 235) rfl)) rfl
theorem se_S_nextBit : Cond.selects mi_S_nextBit.1.cls mi_S_nextBit.1 mi_S_nextBit.1 ∈ mtb := mtb_in (tb_2 (List.mem_of_getElem? (i := 236) rfl)) rfl
theorem fl_S_54 : mFd "PacketField$Sender" 54 7 4 := ⟨_, _, _, mcl_7, by decide, mtb_in (tb_1 (List.mem_of_getElem? (i := 65) rfl)) rfl⟩
theorem fp_S_54 : mFp "PacketField$Sender" 54 7 4 := ⟨_, _, _, mcl_7, by decide, mtb_in (tb_1 (List.mem_of_getElem? (i := 65) rfl)) rfl, Or.inl rfl⟩
theorem fl_S_27 : mFd "PacketField$Sender" 27 7 2 := ⟨_, _, _, mcl_7, by decide, mtb_in (tb_1 (List.mem_of_getElem? (i := 63) rfl)) rfl⟩
theorem fl_S_23 : mFd "PacketField$Sender" 23 7 1 := ⟨_, _, _, mcl_7, by decide, mtb_in (tb_1 (List.mem_of_getElem? (i := 62) rfl)) rfl⟩
theorem fl_S_36 : mFd "PacketField$Sender" 36 0 1 := ⟨_, _, _, mcl_0, by decide, mtb_in (tb_1 (List.mem_of_getElem? (i := 51) rfl)) rfl⟩
theorem ml_S_57 : Cond.methodLink "PacketField$Sender" 57 mi_B_at.1 ∈ mtb := mtb_in (tb_2 (List.mem_of_getElem? (i := 238) rfl)) rfl
theorem ml_S_33 : Cond.methodLink "PacketField$Sender" 33 mi_S_startFlags.1 ∈ mtb := mtb_in (tb_3 (List.mem_of_getElem? (i := 4) rfl)) rfl
theorem cd_B_addFrom : mCd mi_B_addFrom 3 := ⟨mtb_in (tb_3 (List.mem_of_getElem? (i := 8) rfl)) rfl, mtb_in (tb_1 (List.mem_of_getElem? (i := 4) rfl)) rfl, by decide, by decide, by decide, by decide +kernel⟩
theorem ml_S_39 : Cond.methodLink "PacketField$Sender" 39 mi_B_addFrom.1 ∈ mtb := mtb_in (tb_3 (List.mem_of_getElem? (i := 5) rfl)) rfl
theorem im_B_addFrom : Cond.instanceMethod mi_B_addFrom.1 ∈ mtb := mtb_in (tb_3 (List.mem_of_getElem? (i := 6) rfl)) rfl
theorem se_B_addFrom : Cond.selects mi_B_addFrom.1.cls mi_B_addFrom.1 mi_B_addFrom.1 ∈ mtb := mtb_in (tb_3 (List.mem_of_getElem? (i := 7) rfl)) rfl
theorem mn_S_43 : Cond.methodLinkNest "PacketField$Sender" 43 mi_C_checkOf.1 "PacketField" ∈ mnw := List.mem_of_getElem? (i := 7) rfl
theorem cd_C_checkOf : mCd mi_C_checkOf 2 := ⟨mtb_in (tb_3 (List.mem_of_getElem? (i := 14) rfl)) rfl, mtb_in (tb_1 (List.mem_of_getElem? (i := 1) rfl)) rfl, by decide, by decide, by decide, by decide +kernel⟩
theorem sa_C_checkOf : Cond.static mi_C_checkOf.1 ∈ mtb := mtb_in (tb_3 (List.mem_of_getElem? (i := 13) rfl)) rfl
theorem ml_S_47 : Cond.methodLink "PacketField$Sender" 47 mi_B_add.1 ∈ mtb := mtb_in (tb_3 (List.mem_of_getElem? (i := 17) rfl)) rfl
theorem ma_B_29 : Cond.methodLink "PacketField$Bytes" 29 arraycopyName ∈ mtb := mtb_in (tb_3 (List.mem_of_getElem? (i := 9) rfl)) rfl
theorem an_1 : Cond.native arraycopyName ∈ mtb := mtb_in (tb_3 (List.mem_of_getElem? (i := 11) rfl)) rfl
theorem an_2 : Cond.static arraycopyName ∈ mtb := mtb_in (tb_3 (List.mem_of_getElem? (i := 10) rfl)) rfl
theorem an_3 : Cond.initialized "java/lang/System" ∈ mtb := mtb_in (tb_1 (List.mem_of_getElem? (i := 13) rfl)) rfl
theorem ct_C_530 : Cond.constant "PacketField" 530 (65535 : Int32) ∈ mtb := mtb_in (tb_3 (List.mem_of_getElem? (i := 15) rfl)) rfl
theorem ct_C_531 : Cond.constant "PacketField" 531 (33800 : Int32) ∈ mtb := mtb_in (tb_3 (List.mem_of_getElem? (i := 16) rfl)) rfl
theorem fl_C_47 : mFd "PacketField" 47 9 4 := ⟨_, _, _, mcl_9, by decide, mtb_in (tb_2 (List.mem_of_getElem? (i := 152) rfl)) rfl⟩
theorem cd_V_restart : mCd mi_V_restart 0 := ⟨mtb_in (tb_3 (List.mem_of_getElem? (i := 25) rfl)) rfl, mtb_in (tb_1 (List.mem_of_getElem? (i := 6) rfl)) rfl, by decide, by decide, by decide, by decide +kernel⟩
theorem ml_C_92 : Cond.methodLink "PacketField" 92 mi_V_restart.1 ∈ mtb := mtb_in (tb_3 (List.mem_of_getElem? (i := 22) rfl)) rfl
theorem im_V_restart : Cond.instanceMethod mi_V_restart.1 ∈ mtb := mtb_in (tb_3 (List.mem_of_getElem? (i := 23) rfl)) rfl
theorem se_V_restart : Cond.selects mi_V_restart.1.cls mi_V_restart.1 mi_V_restart.1 ∈ mtb := mtb_in (tb_3 (List.mem_of_getElem? (i := 24) rfl)) rfl
theorem cd_V_hear : mCd mi_V_hear 1 := ⟨mtb_in (tb_3 (List.mem_of_getElem? (i := 33) rfl)) rfl, mtb_in (tb_1 (List.mem_of_getElem? (i := 6) rfl)) rfl, by decide, by decide, by decide, by decide +kernel⟩
theorem ml_C_95 : Cond.methodLink "PacketField" 95 mi_V_hear.1 ∈ mtb := mtb_in (tb_3 (List.mem_of_getElem? (i := 30) rfl)) rfl
theorem im_V_hear : Cond.instanceMethod mi_V_hear.1 ∈ mtb := mtb_in (tb_3 (List.mem_of_getElem? (i := 31) rfl)) rfl
theorem se_V_hear : Cond.selects mi_V_hear.1.cls mi_V_hear.1 mi_V_hear.1 ∈ mtb := mtb_in (tb_3 (List.mem_of_getElem? (i := 32) rfl)) rfl
theorem fl_C_99 : mFd "PacketField" 99 4 5 := ⟨_, _, _, mcl_4, by decide, mtb_in (tb_1 (List.mem_of_getElem? (i := 98) rfl)) rfl⟩
theorem cd_C_putOut : mCd mi_C_putOut 3 := ⟨mtb_in (tb_3 (List.mem_of_getElem? (i := 58) rfl)) rfl, mtb_in (tb_1 (List.mem_of_getElem? (i := 1) rfl)) rfl, by decide, by decide, by decide, by decide +kernel⟩
theorem ml_C_102 : Cond.methodLink "PacketField" 102 mi_C_putOut.1 ∈ mtb := mtb_in (tb_3 (List.mem_of_getElem? (i := 55) rfl)) rfl
theorem im_C_putOut : Cond.instanceMethod mi_C_putOut.1 ∈ mtb := mtb_in (tb_3 (List.mem_of_getElem? (i := 57) rfl)) rfl
theorem se_C_putOut : Cond.selects mi_C_putOut.1.cls mi_C_putOut.1 mi_C_putOut.1 ∈ mtb := mtb_in (List.mem_append_left _ (List.mem_of_getElem? (i := 1) (by decide +kernel))) rfl
theorem fp_V_23 : mFp "PacketField$Receiver" 23 4 3 := ⟨_, _, _, mcl_4, by decide, mtb_in (tb_1 (List.mem_of_getElem? (i := 95) rfl)) rfl, Or.inl rfl⟩
theorem cd_V_hearNothing : mCd mi_V_hearNothing 0 := ⟨mtb_in (tb_3 (List.mem_of_getElem? (i := 29) rfl)) rfl, mtb_in (tb_1 (List.mem_of_getElem? (i := 6) rfl)) rfl, by decide, by decide, by decide, by decide +kernel⟩
theorem ml_V_27 : Cond.methodLink "PacketField$Receiver" 27 mi_V_hearNothing.1 ∈ mtb := mtb_in (tb_3 (List.mem_of_getElem? (i := 26) rfl)) rfl
theorem im_V_hearNothing : Cond.instanceMethod mi_V_hearNothing.1 ∈ mtb := mtb_in (tb_3 (List.mem_of_getElem? (i := 27) rfl)) rfl
theorem se_V_hearNothing : Cond.selects mi_V_hearNothing.1.cls mi_V_hearNothing.1 mi_V_hearNothing.1 ∈ mtb := mtb_in (tb_3 (List.mem_of_getElem? (i := 28) rfl)) rfl
theorem fp_V_30 : mFp "PacketField$Receiver" 30 4 2 := ⟨_, _, _, mcl_4, by decide, mtb_in (tb_1 (List.mem_of_getElem? (i := 94) rfl)) rfl, Or.inl rfl⟩
theorem fp_V_34 : mFp "PacketField$Receiver" 34 4 4 := ⟨_, _, _, mcl_4, by decide, mtb_in (tb_1 (List.mem_of_getElem? (i := 96) rfl)) rfl, Or.inl rfl⟩
theorem fl_V_23 : mFd "PacketField$Receiver" 23 4 3 := ⟨_, _, _, mcl_4, by decide, mtb_in (tb_1 (List.mem_of_getElem? (i := 95) rfl)) rfl⟩
theorem fl_V_34 : mFd "PacketField$Receiver" 34 4 4 := ⟨_, _, _, mcl_4, by decide, mtb_in (tb_1 (List.mem_of_getElem? (i := 96) rfl)) rfl⟩
theorem fl_V_30 : mFd "PacketField$Receiver" 30 4 2 := ⟨_, _, _, mcl_4, by decide, mtb_in (tb_1 (List.mem_of_getElem? (i := 94) rfl)) rfl⟩
theorem cd_V_holdsFrame : mCd mi_V_holdsFrame 0 := ⟨mtb_in (tb_3 (List.mem_of_getElem? (i := 50) rfl)) rfl, mtb_in (tb_1 (List.mem_of_getElem? (i := 6) rfl)) rfl, by decide, by decide, by decide, by decide +kernel⟩
theorem ml_V_40 : Cond.methodLink "PacketField$Receiver" 40 mi_V_holdsFrame.1 ∈ mtb := mtb_in (tb_3 (List.mem_of_getElem? (i := 47) rfl)) rfl
theorem im_V_holdsFrame : Cond.instanceMethod mi_V_holdsFrame.1 ∈ mtb := mtb_in (tb_3 (List.mem_of_getElem? (i := 48) rfl)) rfl
theorem se_V_holdsFrame : Cond.selects mi_V_holdsFrame.1.cls mi_V_holdsFrame.1 mi_V_holdsFrame.1 ∈ mtb := mtb_in (tb_3 (List.mem_of_getElem? (i := 49) rfl)) rfl
theorem cd_V_addBit : mCd mi_V_addBit 1 := ⟨mtb_in (tb_3 (List.mem_of_getElem? (i := 41) rfl)) rfl, mtb_in (tb_1 (List.mem_of_getElem? (i := 6) rfl)) rfl, by decide, by decide, by decide, by decide +kernel⟩
theorem ml_V_50 : Cond.methodLink "PacketField$Receiver" 50 mi_V_addBit.1 ∈ mtb := mtb_in (tb_3 (List.mem_of_getElem? (i := 38) rfl)) rfl
theorem im_V_addBit : Cond.instanceMethod mi_V_addBit.1 ∈ mtb := mtb_in (tb_3 (List.mem_of_getElem? (i := 39) rfl)) rfl
theorem se_V_addBit : Cond.selects mi_V_addBit.1.cls mi_V_addBit.1 mi_V_addBit.1 ∈ mtb := mtb_in (tb_3 (List.mem_of_getElem? (i := 40) rfl)) rfl
theorem cd_V_hearOne : mCd mi_V_hearOne 0 := ⟨mtb_in (tb_3 (List.mem_of_getElem? (i := 37) rfl)) rfl, mtb_in (tb_1 (List.mem_of_getElem? (i := 6) rfl)) rfl, by decide, by decide, by decide, by decide +kernel⟩
theorem ml_V_37 : Cond.methodLink "PacketField$Receiver" 37 mi_V_hearOne.1 ∈ mtb := mtb_in (tb_3 (List.mem_of_getElem? (i := 34) rfl)) rfl
theorem im_V_hearOne : Cond.instanceMethod mi_V_hearOne.1 ∈ mtb := mtb_in (tb_3 (List.mem_of_getElem? (i := 35) rfl)) rfl
theorem se_V_hearOne : Cond.selects mi_V_hearOne.1.cls mi_V_hearOne.1 mi_V_hearOne.1 ∈ mtb := mtb_in (tb_3 (List.mem_of_getElem? (i := 36) rfl)) rfl
theorem fp_V_44 : mFp "PacketField$Receiver" 44 4 1 := ⟨_, _, _, mcl_4, by decide, mtb_in (tb_1 (List.mem_of_getElem? (i := 93) rfl)) rfl, Or.inl rfl⟩
theorem fl_V_16 : mFd "PacketField$Receiver" 16 4 0 := ⟨_, _, _, mcl_4, by decide, mtb_in (tb_1 (List.mem_of_getElem? (i := 92) rfl)) rfl⟩
theorem ml_V_47 : Cond.methodLink "PacketField$Receiver" 47 mi_B_clear.1 ∈ mtb := mtb_in (tb_3 (List.mem_of_getElem? (i := 53) rfl)) rfl
theorem fl_V_44 : mFd "PacketField$Receiver" 44 4 1 := ⟨_, _, _, mcl_4, by decide, mtb_in (tb_1 (List.mem_of_getElem? (i := 93) rfl)) rfl⟩
theorem ml_V_53 : Cond.methodLink "PacketField$Receiver" 53 mi_B_add.1 ∈ mtb := mtb_in (tb_3 (List.mem_of_getElem? (i := 42) rfl)) rfl
theorem cd_B_raise : mCd mi_B_raise 2 := ⟨mtb_in (tb_3 (List.mem_of_getElem? (i := 46) rfl)) rfl, mtb_in (tb_1 (List.mem_of_getElem? (i := 4) rfl)) rfl, by decide, by decide, by decide, by decide +kernel⟩
theorem ml_V_56 : Cond.methodLink "PacketField$Receiver" 56 mi_B_raise.1 ∈ mtb := mtb_in (tb_3 (List.mem_of_getElem? (i := 43) rfl)) rfl
theorem im_B_raise : Cond.instanceMethod mi_B_raise.1 ∈ mtb := mtb_in (tb_3 (List.mem_of_getElem? (i := 44) rfl)) rfl
theorem se_B_raise : Cond.selects mi_B_raise.1.cls mi_B_raise.1 mi_B_raise.1 ∈ mtb := mtb_in (tb_3 (List.mem_of_getElem? (i := 45) rfl)) rfl
theorem ml_V_60 : Cond.methodLink "PacketField$Receiver" 60 mi_B_at.1 ∈ mtb := mtb_in (tb_3 (List.mem_of_getElem? (i := 51) rfl)) rfl
theorem mn_V_64 : Cond.methodLinkNest "PacketField$Receiver" 64 mi_C_checkOf.1 "PacketField" ∈ mnw := List.mem_of_getElem? (i := 8) rfl
theorem fl_V_20 : mFd "PacketField$Receiver" 20 4 5 := ⟨_, _, _, mcl_4, by decide, mtb_in (tb_1 (List.mem_of_getElem? (i := 97) rfl)) rfl⟩
theorem ml_V_68 : Cond.methodLink "PacketField$Receiver" 68 mi_B_addFrom.1 ∈ mtb := mtb_in (tb_3 (List.mem_of_getElem? (i := 54) rfl)) rfl
theorem ml_C_134 : Cond.methodLink "PacketField" 134 mi_B_addFrom.1 ∈ mtb := mtb_in (tb_3 (List.mem_of_getElem? (i := 59) rfl)) rfl
theorem cd_C_stationAt : mCd mi_C_stationAt 1 := ⟨mtb_in (tb_3 (List.mem_of_getElem? (i := 67) rfl)) rfl, mtb_in (tb_1 (List.mem_of_getElem? (i := 1) rfl)) rfl, by decide, by decide, by decide, by decide +kernel⟩
theorem ml_C_106 : Cond.methodLink "PacketField" 106 mi_C_stationAt.1 ∈ mtb := mtb_in (tb_3 (List.mem_of_getElem? (i := 64) rfl)) rfl
theorem im_C_stationAt : Cond.instanceMethod mi_C_stationAt.1 ∈ mtb := mtb_in (tb_3 (List.mem_of_getElem? (i := 66) rfl)) rfl
theorem se_C_stationAt : Cond.selects mi_C_stationAt.1.cls mi_C_stationAt.1 mi_C_stationAt.1 ∈ mtb := mtb_in (List.mem_append_left _ (List.mem_of_getElem? (i := 2) (by decide +kernel))) rfl
theorem cd_C_isStation : mCd mi_C_isStation 1 := ⟨mtb_in (tb_3 (List.mem_of_getElem? (i := 70) rfl)) rfl, mtb_in (tb_1 (List.mem_of_getElem? (i := 1) rfl)) rfl, by decide, by decide, by decide, by decide +kernel⟩
theorem ml_C_110 : Cond.methodLink "PacketField" 110 mi_C_isStation.1 ∈ mtb := mtb_in (tb_3 (List.mem_of_getElem? (i := 68) rfl)) rfl
theorem sa_C_isStation : Cond.static mi_C_isStation.1 ∈ mtb := mtb_in (tb_3 (List.mem_of_getElem? (i := 69) rfl)) rfl
theorem fl_C_113 : mFd "PacketField" 113 8 8 := ⟨_, _, _, mcl_8, by decide, mtb_in (tb_1 (List.mem_of_getElem? (i := 169) rfl)) rfl⟩
theorem fp_C_113 : mFp "PacketField" 113 8 8 := ⟨_, _, _, mcl_8, by decide, mtb_in (tb_1 (List.mem_of_getElem? (i := 169) rfl)) rfl, Or.inl rfl⟩
theorem cd_C_isSetting : mCd mi_C_isSetting 2 := ⟨mtb_in (tb_3 (List.mem_of_getElem? (i := 77) rfl)) rfl, mtb_in (tb_1 (List.mem_of_getElem? (i := 1) rfl)) rfl, by decide, by decide, by decide, by decide +kernel⟩
theorem ml_C_116 : Cond.methodLink "PacketField" 116 mi_C_isSetting.1 ∈ mtb := mtb_in (tb_3 (List.mem_of_getElem? (i := 75) rfl)) rfl
theorem sa_C_isSetting : Cond.static mi_C_isSetting.1 ∈ mtb := mtb_in (tb_3 (List.mem_of_getElem? (i := 76) rfl)) rfl
theorem fl_C_120 : mFd "PacketField" 120 8 1 := ⟨_, _, _, mcl_8, by decide, mtb_in (tb_1 (List.mem_of_getElem? (i := 155) rfl)) rfl⟩
theorem gs_C_333 : Cond.fieldLink "PacketField" 333 "PacketField" "LEAST" "[I" ∈ mtb := mtb_in (tb_3 (List.mem_of_getElem? (i := 78) rfl)) rfl
theorem gs_C_336 : Cond.fieldLink "PacketField" 336 "PacketField" "MOST" "[I" ∈ mtb := mtb_in (tb_3 (List.mem_of_getElem? (i := 79) rfl)) rfl
theorem fl_C_124 : mFd "PacketField" 124 8 4 := ⟨_, _, _, mcl_8, by decide, mtb_in (tb_1 (List.mem_of_getElem? (i := 161) rfl)) rfl⟩
theorem cd_W_addRow : mCd mi_W_addRow 0 := ⟨mtb_in (tb_3 (List.mem_of_getElem? (i := 88) rfl)) rfl, mtb_in (tb_1 (List.mem_of_getElem? (i := 7) rfl)) rfl, by decide, by decide, by decide, by decide +kernel⟩
theorem ml_C_128 : Cond.methodLink "PacketField" 128 mi_W_addRow.1 ∈ mtb := mtb_in (tb_3 (List.mem_of_getElem? (i := 85) rfl)) rfl
theorem im_W_addRow : Cond.instanceMethod mi_W_addRow.1 ∈ mtb := mtb_in (tb_3 (List.mem_of_getElem? (i := 86) rfl)) rfl
theorem se_W_addRow : Cond.selects mi_W_addRow.1.cls mi_W_addRow.1 mi_W_addRow.1 ∈ mtb := mtb_in (tb_3 (List.mem_of_getElem? (i := 87) rfl)) rfl
theorem fl_W_24 : mFd "PacketField$Rows" 24 6 2 := ⟨_, _, _, mcl_6, by decide, mtb_in (tb_1 (List.mem_of_getElem? (i := 124) rfl)) rfl⟩
theorem fl_W_28 : mFd "PacketField$Rows" 28 6 1 := ⟨_, _, _, mcl_6, by decide, mtb_in (tb_1 (List.mem_of_getElem? (i := 123) rfl)) rfl⟩
theorem fp_W_31 : mFp "PacketField$Rows" 31 0 1 := ⟨_, _, _, mcl_0, by decide, mtb_in (tb_1 (List.mem_of_getElem? (i := 52) rfl)) rfl, Or.inl rfl⟩
theorem fp_W_24 : mFp "PacketField$Rows" 24 6 2 := ⟨_, _, _, mcl_6, by decide, mtb_in (tb_1 (List.mem_of_getElem? (i := 124) rfl)) rfl, Or.inl rfl⟩
theorem cd_C_linkAt : mCd mi_C_linkAt 2 := ⟨mtb_in (tb_3 (List.mem_of_getElem? (i := 96) rfl)) rfl, mtb_in (tb_1 (List.mem_of_getElem? (i := 1) rfl)) rfl, by decide, by decide, by decide, by decide +kernel⟩
theorem ml_C_137 : Cond.methodLink "PacketField" 137 mi_C_linkAt.1 ∈ mtb := mtb_in (tb_3 (List.mem_of_getElem? (i := 93) rfl)) rfl
theorem im_C_linkAt : Cond.instanceMethod mi_C_linkAt.1 ∈ mtb := mtb_in (tb_3 (List.mem_of_getElem? (i := 95) rfl)) rfl
theorem se_C_linkAt : Cond.selects mi_C_linkAt.1.cls mi_C_linkAt.1 mi_C_linkAt.1 ∈ mtb := mtb_in (List.mem_append_left _ (List.mem_of_getElem? (i := 3) (by decide +kernel))) rfl
theorem fl_C_141 : mFd "PacketField" 141 2 7 := ⟨_, _, _, mcl_2, by decide, mtb_in (tb_2 (List.mem_of_getElem? (i := 30) rfl)) rfl⟩
theorem cd_C_areVias : mCd mi_C_areVias 4 := ⟨mtb_in (tb_3 (List.mem_of_getElem? (i := 103) rfl)) rfl, mtb_in (tb_1 (List.mem_of_getElem? (i := 1) rfl)) rfl, by decide, by decide, by decide, by decide +kernel⟩
theorem ml_C_144 : Cond.methodLink "PacketField" 144 mi_C_areVias.1 ∈ mtb := mtb_in (tb_3 (List.mem_of_getElem? (i := 101) rfl)) rfl
theorem sa_C_areVias : Cond.static mi_C_areVias.1 ∈ mtb := mtb_in (tb_3 (List.mem_of_getElem? (i := 102) rfl)) rfl
theorem fl_C_148 : mFd "PacketField" 148 2 2 := ⟨_, _, _, mcl_2, by decide, mtb_in (tb_2 (List.mem_of_getElem? (i := 20) rfl)) rfl⟩
theorem fp_C_152 : mFp "PacketField" 152 3 1 := ⟨_, _, _, mcl_3, by decide, mtb_in (tb_1 (List.mem_of_getElem? (i := 235) rfl)) rfl, Or.inl rfl⟩
theorem fp_C_157 : mFp "PacketField" 157 3 2 := ⟨_, _, _, mcl_3, by decide, mtb_in (tb_1 (List.mem_of_getElem? (i := 238) rfl)) rfl, Or.inl rfl⟩
theorem cd_C_callOther : mCd mi_C_callOther 1 := ⟨mtb_in (tb_3 (List.mem_of_getElem? (i := 106) rfl)) rfl, mtb_in (tb_1 (List.mem_of_getElem? (i := 1) rfl)) rfl, by decide, by decide, by decide, by decide +kernel⟩
theorem ml_C_160 : Cond.methodLink "PacketField" 160 mi_C_callOther.1 ∈ mtb := mtb_in (tb_3 (List.mem_of_getElem? (i := 104) rfl)) rfl
theorem sa_C_callOther : Cond.static mi_C_callOther.1 ∈ mtb := mtb_in (tb_3 (List.mem_of_getElem? (i := 105) rfl)) rfl
theorem cd_N_linkTo : mCd mi_N_linkTo 1 := ⟨mtb_in (tb_3 (List.mem_of_getElem? (i := 100) rfl)) rfl, mtb_in (tb_1 (List.mem_of_getElem? (i := 2) rfl)) rfl, by decide, by decide, by decide, by decide +kernel⟩
theorem ml_C_339 : Cond.methodLink "PacketField" 339 mi_N_linkTo.1 ∈ mtb := mtb_in (tb_3 (List.mem_of_getElem? (i := 97) rfl)) rfl
theorem im_N_linkTo : Cond.instanceMethod mi_N_linkTo.1 ∈ mtb := mtb_in (tb_3 (List.mem_of_getElem? (i := 98) rfl)) rfl
theorem se_N_linkTo : Cond.selects mi_N_linkTo.1.cls mi_N_linkTo.1 mi_N_linkTo.1 ∈ mtb := mtb_in (tb_3 (List.mem_of_getElem? (i := 99) rfl)) rfl
theorem fl_N_50 : mFd "PacketField$Station" 50 8 6 := ⟨_, _, _, mcl_8, by decide, mtb_in (tb_1 (List.mem_of_getElem? (i := 165) rfl)) rfl⟩
theorem fl_C_500 : mFd "PacketField" 500 2 16 := ⟨_, _, _, mcl_2, by decide, mtb_in (tb_2 (List.mem_of_getElem? (i := 47) rfl)) rfl⟩
theorem fp_C_500 : mFp "PacketField" 500 2 16 := ⟨_, _, _, mcl_2, by decide, mtb_in (tb_2 (List.mem_of_getElem? (i := 47) rfl)) rfl, Or.inl rfl⟩
theorem cd_K_restart : mCd mi_K_restart 1 := ⟨mtb_in (tb_3 (List.mem_of_getElem? (i := 110) rfl)) rfl, mtb_in (tb_1 (List.mem_of_getElem? (i := 9) rfl)) rfl, by decide, by decide, by decide, by decide +kernel⟩
theorem ml_C_164 : Cond.methodLink "PacketField" 164 mi_K_restart.1 ∈ mtb := mtb_in (tb_3 (List.mem_of_getElem? (i := 107) rfl)) rfl
theorem im_K_restart : Cond.instanceMethod mi_K_restart.1 ∈ mtb := mtb_in (tb_3 (List.mem_of_getElem? (i := 108) rfl)) rfl
theorem se_K_restart : Cond.selects mi_K_restart.1.cls mi_K_restart.1 mi_K_restart.1 ∈ mtb := mtb_in (tb_3 (List.mem_of_getElem? (i := 109) rfl)) rfl
theorem fl_C_188 : mFd "PacketField" 188 2 4 := ⟨_, _, _, mcl_2, by decide, mtb_in (tb_2 (List.mem_of_getElem? (i := 24) rfl)) rfl⟩
theorem fl_C_169 : mFd "PacketField" 169 2 0 := ⟨_, _, _, mcl_2, by decide, mtb_in (tb_2 (List.mem_of_getElem? (i := 16) rfl)) rfl⟩
theorem fl_C_368 : mFd "PacketField" 368 8 0 := ⟨_, _, _, mcl_8, by decide, mtb_in (tb_1 (List.mem_of_getElem? (i := 153) rfl)) rfl⟩
theorem fl_C_447 : mFd "PacketField" 447 2 1 := ⟨_, _, _, mcl_2, by decide, mtb_in (tb_2 (List.mem_of_getElem? (i := 18) rfl)) rfl⟩
theorem fp_C_315 : mFp "PacketField" 315 3 3 := ⟨_, _, _, mcl_3, by decide, mtb_in (tb_2 (List.mem_of_getElem? (i := 1) rfl)) rfl, Or.inl rfl⟩
theorem fp_C_166 : mFp "PacketField" 166 2 12 := ⟨_, _, _, mcl_2, by decide, mtb_in (tb_2 (List.mem_of_getElem? (i := 40) rfl)) rfl, Or.inl rfl⟩
theorem fp_C_173 : mFp "PacketField" 173 2 11 := ⟨_, _, _, mcl_2, by decide, mtb_in (tb_2 (List.mem_of_getElem? (i := 38) rfl)) rfl, Or.inl rfl⟩
theorem cd_C_say : mCd mi_C_say 4 := ⟨mtb_in (tb_3 (List.mem_of_getElem? (i := 122) rfl)) rfl, mtb_in (tb_1 (List.mem_of_getElem? (i := 1) rfl)) rfl, by decide, by decide, by decide, by decide +kernel⟩
theorem ml_C_176 : Cond.methodLink "PacketField" 176 mi_C_say.1 ∈ mtb := mtb_in (tb_3 (List.mem_of_getElem? (i := 120) rfl)) rfl
theorem sa_C_say : Cond.static mi_C_say.1 ∈ mtb := mtb_in (tb_3 (List.mem_of_getElem? (i := 121) rfl)) rfl
theorem cd_K_enter : mCd mi_K_enter 1 := ⟨mtb_in (tb_3 (List.mem_of_getElem? (i := 114) rfl)) rfl, mtb_in (tb_1 (List.mem_of_getElem? (i := 9) rfl)) rfl, by decide, by decide, by decide, by decide +kernel⟩
theorem ml_K_67 : Cond.methodLink "PacketField$Link" 67 mi_K_enter.1 ∈ mtb := mtb_in (tb_3 (List.mem_of_getElem? (i := 111) rfl)) rfl
theorem im_K_enter : Cond.instanceMethod mi_K_enter.1 ∈ mtb := mtb_in (tb_3 (List.mem_of_getElem? (i := 112) rfl)) rfl
theorem se_K_enter : Cond.selects mi_K_enter.1.cls mi_K_enter.1 mi_K_enter.1 ∈ mtb := mtb_in (tb_3 (List.mem_of_getElem? (i := 113) rfl)) rfl
theorem fp_K_70 : mFp "PacketField$Link" 70 2 8 := ⟨_, _, _, mcl_2, by decide, mtb_in (tb_2 (List.mem_of_getElem? (i := 31) rfl)) rfl, Or.inl rfl⟩
theorem fp_K_73 : mFp "PacketField$Link" 73 2 9 := ⟨_, _, _, mcl_2, by decide, mtb_in (tb_2 (List.mem_of_getElem? (i := 33) rfl)) rfl, Or.inl rfl⟩
theorem fp_K_76 : mFp "PacketField$Link" 76 2 10 := ⟨_, _, _, mcl_2, by decide, mtb_in (tb_2 (List.mem_of_getElem? (i := 35) rfl)) rfl, Or.inl rfl⟩
theorem fp_K_79 : mFp "PacketField$Link" 79 2 11 := ⟨_, _, _, mcl_2, by decide, mtb_in (tb_2 (List.mem_of_getElem? (i := 37) rfl)) rfl, Or.inl rfl⟩
theorem fp_K_82 : mFp "PacketField$Link" 82 2 12 := ⟨_, _, _, mcl_2, by decide, mtb_in (tb_2 (List.mem_of_getElem? (i := 39) rfl)) rfl, Or.inl rfl⟩
theorem fp_K_85 : mFp "PacketField$Link" 85 2 13 := ⟨_, _, _, mcl_2, by decide, mtb_in (tb_2 (List.mem_of_getElem? (i := 41) rfl)) rfl, Or.inl rfl⟩
theorem fp_K_89 : mFp "PacketField$Link" 89 2 14 := ⟨_, _, _, mcl_2, by decide, mtb_in (tb_2 (List.mem_of_getElem? (i := 43) rfl)) rfl, Or.inl rfl⟩
theorem fp_K_92 : mFp "PacketField$Link" 92 2 15 := ⟨_, _, _, mcl_2, by decide, mtb_in (tb_2 (List.mem_of_getElem? (i := 45) rfl)) rfl, Or.inl rfl⟩
theorem fl_K_34 : mFd "PacketField$Link" 34 2 3 := ⟨_, _, _, mcl_2, by decide, mtb_in (tb_2 (List.mem_of_getElem? (i := 21) rfl)) rfl⟩
theorem ml_K_95 : Cond.methodLink "PacketField$Link" 95 mi_B_clear.1 ∈ mtb := mtb_in (tb_3 (List.mem_of_getElem? (i := 115) rfl)) rfl
theorem fl_K_50 : mFd "PacketField$Link" 50 2 6 := ⟨_, _, _, mcl_2, by decide, mtb_in (tb_2 (List.mem_of_getElem? (i := 27) rfl)) rfl⟩
theorem cd_W_clear : mCd mi_W_clear 0 := ⟨mtb_in (tb_3 (List.mem_of_getElem? (i := 119) rfl)) rfl, mtb_in (tb_1 (List.mem_of_getElem? (i := 7) rfl)) rfl, by decide, by decide, by decide, by decide +kernel⟩
theorem ml_K_98 : Cond.methodLink "PacketField$Link" 98 mi_W_clear.1 ∈ mtb := mtb_in (tb_3 (List.mem_of_getElem? (i := 116) rfl)) rfl
theorem im_W_clear : Cond.instanceMethod mi_W_clear.1 ∈ mtb := mtb_in (tb_3 (List.mem_of_getElem? (i := 117) rfl)) rfl
theorem se_W_clear : Cond.selects mi_W_clear.1.cls mi_W_clear.1 mi_W_clear.1 ∈ mtb := mtb_in (tb_3 (List.mem_of_getElem? (i := 118) rfl)) rfl
theorem fl_K_59 : mFd "PacketField$Link" 59 2 7 := ⟨_, _, _, mcl_2, by decide, mtb_in (tb_2 (List.mem_of_getElem? (i := 29) rfl)) rfl⟩
theorem fl_K_9 : mFd "PacketField$Link" 9 2 0 := ⟨_, _, _, mcl_2, by decide, mtb_in (tb_2 (List.mem_of_getElem? (i := 15) rfl)) rfl⟩
theorem fl_K_62 : mFd "PacketField$Link" 62 8 11 := ⟨_, _, _, mcl_8, by decide, mtb_in (tb_1 (List.mem_of_getElem? (i := 172) rfl)) rfl⟩
theorem fp_K_62 : mFp "PacketField$Link" 62 8 11 := ⟨_, _, _, mcl_8, by decide, mtb_in (tb_1 (List.mem_of_getElem? (i := 172) rfl)) rfl, Or.inl rfl⟩
theorem fp_K_59 : mFp "PacketField$Link" 59 2 7 := ⟨_, _, _, mcl_2, by decide, mtb_in (tb_2 (List.mem_of_getElem? (i := 29) rfl)) rfl, Or.inl rfl⟩
theorem fl_C_285 : mFd "PacketField" 285 8 17 := ⟨_, _, _, mcl_8, by decide, mtb_in (tb_1 (List.mem_of_getElem? (i := 179) rfl)) rfl⟩
theorem fp_C_285 : mFp "PacketField" 285 8 17 := ⟨_, _, _, mcl_8, by decide, mtb_in (tb_1 (List.mem_of_getElem? (i := 179) rfl)) rfl, Or.inl rfl⟩
theorem fl_C_152 : mFd "PacketField" 152 3 1 := ⟨_, _, _, mcl_3, by decide, mtb_in (tb_1 (List.mem_of_getElem? (i := 235) rfl)) rfl⟩
theorem gs_C_488 : Cond.fieldLink "PacketField" 488 "PacketField" "STATION_NAME" "[I" ∈ mtb := mtb_in (tb_3 (List.mem_of_getElem? (i := 123) rfl)) rfl
theorem fl_C_491 : mFd "PacketField" 491 3 0 := ⟨_, _, _, mcl_3, by decide, mtb_in (tb_1 (List.mem_of_getElem? (i := 232) rfl)) rfl⟩
theorem cd_B_addAddress : mCd mi_B_addAddress 2 := ⟨mtb_in (tb_3 (List.mem_of_getElem? (i := 128) rfl)) rfl, mtb_in (tb_1 (List.mem_of_getElem? (i := 4) rfl)) rfl, by decide, by decide, by decide, by decide +kernel⟩
theorem ml_C_492 : Cond.methodLink "PacketField" 492 mi_B_addAddress.1 ∈ mtb := mtb_in (tb_3 (List.mem_of_getElem? (i := 125) rfl)) rfl
theorem im_B_addAddress : Cond.instanceMethod mi_B_addAddress.1 ∈ mtb := mtb_in (tb_3 (List.mem_of_getElem? (i := 126) rfl)) rfl
theorem se_B_addAddress : Cond.selects mi_B_addAddress.1.cls mi_B_addAddress.1 mi_B_addAddress.1 ∈ mtb := mtb_in (tb_3 (List.mem_of_getElem? (i := 127) rfl)) rfl
theorem fl_C_157 : mFd "PacketField" 157 3 2 := ⟨_, _, _, mcl_3, by decide, mtb_in (tb_1 (List.mem_of_getElem? (i := 238) rfl)) rfl⟩
theorem fl_C_315 : mFd "PacketField" 315 3 3 := ⟨_, _, _, mcl_3, by decide, mtb_in (tb_2 (List.mem_of_getElem? (i := 1) rfl)) rfl⟩
theorem cd_C_giveTape : mCd mi_C_giveTape 1 := ⟨mtb_in (tb_3 (List.mem_of_getElem? (i := 140) rfl)) rfl, mtb_in (tb_1 (List.mem_of_getElem? (i := 1) rfl)) rfl, by decide, by decide, by decide, by decide +kernel⟩
theorem ml_C_180 : Cond.methodLink "PacketField" 180 mi_C_giveTape.1 ∈ mtb := mtb_in (tb_3 (List.mem_of_getElem? (i := 137) rfl)) rfl
theorem im_C_giveTape : Cond.instanceMethod mi_C_giveTape.1 ∈ mtb := mtb_in (tb_3 (List.mem_of_getElem? (i := 139) rfl)) rfl
theorem se_C_giveTape : Cond.selects mi_C_giveTape.1.cls mi_C_giveTape.1 mi_C_giveTape.1 ∈ mtb := mtb_in (List.mem_append_left _ (List.mem_of_getElem? (i := 4) (by decide +kernel))) rfl
theorem fl_C_306 : mFd "PacketField" 306 2 3 := ⟨_, _, _, mcl_2, by decide, mtb_in (tb_2 (List.mem_of_getElem? (i := 22) rfl)) rfl⟩
theorem cd_K_isBusy : mCd mi_K_isBusy 0 := ⟨mtb_in (tb_3 (List.mem_of_getElem? (i := 148) rfl)) rfl, mtb_in (tb_1 (List.mem_of_getElem? (i := 9) rfl)) rfl, by decide, by decide, by decide, by decide +kernel⟩
theorem ml_C_184 : Cond.methodLink "PacketField" 184 mi_K_isBusy.1 ∈ mtb := mtb_in (tb_3 (List.mem_of_getElem? (i := 145) rfl)) rfl
theorem im_K_isBusy : Cond.instanceMethod mi_K_isBusy.1 ∈ mtb := mtb_in (tb_3 (List.mem_of_getElem? (i := 146) rfl)) rfl
theorem se_K_isBusy : Cond.selects mi_K_isBusy.1.cls mi_K_isBusy.1 mi_K_isBusy.1 ∈ mtb := mtb_in (tb_3 (List.mem_of_getElem? (i := 147) rfl)) rfl
theorem mm_C_191 : Cond.methodLink "PacketField" 191 Lib.Math.min.name ∈ mtb := mtb_in (tb_3 (List.mem_of_getElem? (i := 149) rfl)) rfl
theorem ms_min : Cond.static Lib.Math.min.name ∈ mtb := mtb_in (tb_3 (List.mem_of_getElem? (i := 150) rfl)) rfl
theorem mc_min : Cond.code Lib.Math.min.name Lib.Math.min.code 2 (some .int) ∈ mtb := mtb_in (tb_3 (List.mem_of_getElem? (i := 151) (by decide +kernel))) rfl
theorem cd_B_dropFirst : mCd mi_B_dropFirst 1 := ⟨mtb_in (tb_3 (List.mem_of_getElem? (i := 155) rfl)) rfl, mtb_in (tb_1 (List.mem_of_getElem? (i := 4) rfl)) rfl, by decide, by decide, by decide, by decide +kernel⟩
theorem ml_C_197 : Cond.methodLink "PacketField" 197 mi_B_dropFirst.1 ∈ mtb := mtb_in (tb_3 (List.mem_of_getElem? (i := 152) rfl)) rfl
theorem im_B_dropFirst : Cond.instanceMethod mi_B_dropFirst.1 ∈ mtb := mtb_in (tb_3 (List.mem_of_getElem? (i := 153) rfl)) rfl
theorem se_B_dropFirst : Cond.selects mi_B_dropFirst.1.cls mi_B_dropFirst.1 mi_B_dropFirst.1 ∈ mtb := mtb_in (tb_3 (List.mem_of_getElem? (i := 154) rfl)) rfl
theorem cd_C_sayReady : mCd mi_C_sayReady 3 := ⟨mtb_in (tb_3 (List.mem_of_getElem? (i := 159) rfl)) rfl, mtb_in (tb_1 (List.mem_of_getElem? (i := 1) rfl)) rfl, by decide, by decide, by decide, by decide +kernel⟩
theorem ml_C_200 : Cond.methodLink "PacketField" 200 mi_C_sayReady.1 ∈ mtb := mtb_in (tb_3 (List.mem_of_getElem? (i := 157) rfl)) rfl
theorem sa_C_sayReady : Cond.static mi_C_sayReady.1 ∈ mtb := mtb_in (tb_3 (List.mem_of_getElem? (i := 158) rfl)) rfl
theorem fl_K_38 : mFd "PacketField$Link" 38 2 4 := ⟨_, _, _, mcl_2, by decide, mtb_in (tb_2 (List.mem_of_getElem? (i := 23) rfl)) rfl⟩
theorem fl_K_53 : mFd "PacketField$Link" 53 0 1 := ⟨_, _, _, mcl_0, by decide, mtb_in (tb_1 (List.mem_of_getElem? (i := 50) rfl)) rfl⟩
theorem mm_B_35 : Cond.methodLink "PacketField$Bytes" 35 Lib.Math.min.name ∈ mtb := mtb_in (tb_3 (List.mem_of_getElem? (i := 156) rfl)) rfl
theorem fl_C_294 : mFd "PacketField" 294 2 10 := ⟨_, _, _, mcl_2, by decide, mtb_in (tb_2 (List.mem_of_getElem? (i := 36) rfl)) rfl⟩
theorem fl_C_204 : mFd "PacketField" 204 8 12 := ⟨_, _, _, mcl_8, by decide, mtb_in (tb_1 (List.mem_of_getElem? (i := 174) rfl)) rfl⟩
theorem fp_C_204 : mFp "PacketField" 204 8 12 := ⟨_, _, _, mcl_8, by decide, mtb_in (tb_1 (List.mem_of_getElem? (i := 174) rfl)) rfl, Or.inl rfl⟩
theorem fl_C_51 : mFd "PacketField" 51 9 5 := ⟨_, _, _, mcl_9, by decide, mtb_in (tb_2 (List.mem_of_getElem? (i := 153) rfl)) rfl⟩
theorem cd_C_receivePacket : mCd mi_C_receivePacket 3 := ⟨mtb_in (tb_3 (List.mem_of_getElem? (i := 166) rfl)) rfl, mtb_in (tb_1 (List.mem_of_getElem? (i := 1) rfl)) rfl, by decide, by decide, by decide, by decide +kernel⟩
theorem ml_C_210 : Cond.methodLink "PacketField" 210 mi_C_receivePacket.1 ∈ mtb := mtb_in (tb_3 (List.mem_of_getElem? (i := 164) rfl)) rfl
theorem sa_C_receivePacket : Cond.static mi_C_receivePacket.1 ∈ mtb := mtb_in (tb_3 (List.mem_of_getElem? (i := 165) rfl)) rfl
theorem fl_C_282 : mFd "PacketField" 282 8 16 := ⟨_, _, _, mcl_8, by decide, mtb_in (tb_1 (List.mem_of_getElem? (i := 178) rfl)) rfl⟩
theorem fp_C_282 : mFp "PacketField" 282 8 16 := ⟨_, _, _, mcl_8, by decide, mtb_in (tb_1 (List.mem_of_getElem? (i := 178) rfl)) rfl, Or.inl rfl⟩
theorem fl_C_318 : mFd "PacketField" 318 8 7 := ⟨_, _, _, mcl_8, by decide, mtb_in (tb_1 (List.mem_of_getElem? (i := 167) rfl)) rfl⟩
theorem cd_T_bestTo : mCd mi_T_bestTo 1 := ⟨mtb_in (tb_3 (List.mem_of_getElem? (i := 170) rfl)) rfl, mtb_in (tb_1 (List.mem_of_getElem? (i := 8) rfl)) rfl, by decide, by decide, by decide, by decide +kernel⟩
theorem ml_C_330 : Cond.methodLink "PacketField" 330 mi_T_bestTo.1 ∈ mtb := mtb_in (tb_3 (List.mem_of_getElem? (i := 167) rfl)) rfl
theorem im_T_bestTo : Cond.instanceMethod mi_T_bestTo.1 ∈ mtb := mtb_in (tb_3 (List.mem_of_getElem? (i := 168) rfl)) rfl
theorem se_T_bestTo : Cond.selects mi_T_bestTo.1.cls mi_T_bestTo.1 mi_T_bestTo.1 ∈ mtb := mtb_in (tb_3 (List.mem_of_getElem? (i := 169) rfl)) rfl
theorem fl_C_309 : mFd "PacketField" 309 2 5 := ⟨_, _, _, mcl_2, by decide, mtb_in (tb_2 (List.mem_of_getElem? (i := 26) rfl)) rfl⟩
theorem fl_C_214 : mFd "PacketField" 214 8 5 := ⟨_, _, _, mcl_8, by decide, mtb_in (tb_1 (List.mem_of_getElem? (i := 163) rfl)) rfl⟩
theorem ml_C_443 : Cond.methodLink "PacketField" 443 mi_B_raise.1 ∈ mtb := mtb_in (tb_3 (List.mem_of_getElem? (i := 176) rfl)) rfl
theorem cd_T_qualityOf : mCd mi_T_qualityOf 2 := ⟨mtb_in (tb_3 (List.mem_of_getElem? (i := 174) rfl)) rfl, mtb_in (tb_1 (List.mem_of_getElem? (i := 8) rfl)) rfl, by decide, by decide, by decide, by decide +kernel⟩
theorem ml_T_26 : Cond.methodLink "PacketField$Routes" 26 mi_T_qualityOf.1 ∈ mtb := mtb_in (tb_3 (List.mem_of_getElem? (i := 171) rfl)) rfl
theorem im_T_qualityOf : Cond.instanceMethod mi_T_qualityOf.1 ∈ mtb := mtb_in (tb_3 (List.mem_of_getElem? (i := 172) rfl)) rfl
theorem se_T_qualityOf : Cond.selects mi_T_qualityOf.1.cls mi_T_qualityOf.1 mi_T_qualityOf.1 ∈ mtb := mtb_in (tb_3 (List.mem_of_getElem? (i := 173) rfl)) rfl
theorem mn_T_22 : Cond.methodLinkNest "PacketField$Routes" 22 mi_C_isStation.1 "PacketField" ∈ mnw := List.mem_of_getElem? (i := 9) rfl
theorem fl_T_15 : mFd "PacketField$Routes" 15 5 1 := ⟨_, _, _, mcl_5, by decide, mtb_in (tb_1 (List.mem_of_getElem? (i := 143) rfl)) rfl⟩
theorem cd_W_rowAt : mCd mi_W_rowAt 1 := ⟨mtb_in (tb_3 (List.mem_of_getElem? (i := 184) rfl)) rfl, mtb_in (tb_1 (List.mem_of_getElem? (i := 7) rfl)) rfl, by decide, by decide, by decide, by decide +kernel⟩
theorem ml_C_217 : Cond.methodLink "PacketField" 217 mi_W_rowAt.1 ∈ mtb := mtb_in (tb_3 (List.mem_of_getElem? (i := 181) rfl)) rfl
theorem im_W_rowAt : Cond.instanceMethod mi_W_rowAt.1 ∈ mtb := mtb_in (tb_3 (List.mem_of_getElem? (i := 182) rfl)) rfl
theorem se_W_rowAt : Cond.selects mi_W_rowAt.1.cls mi_W_rowAt.1 mi_W_rowAt.1 ∈ mtb := mtb_in (tb_3 (List.mem_of_getElem? (i := 183) rfl)) rfl
theorem cd_W_dropFirst : mCd mi_W_dropFirst 1 := ⟨mtb_in (tb_3 (List.mem_of_getElem? (i := 188) rfl)) rfl, mtb_in (tb_1 (List.mem_of_getElem? (i := 7) rfl)) rfl, by decide, by decide, by decide, by decide +kernel⟩
theorem ml_C_221 : Cond.methodLink "PacketField" 221 mi_W_dropFirst.1 ∈ mtb := mtb_in (tb_3 (List.mem_of_getElem? (i := 185) rfl)) rfl
theorem im_W_dropFirst : Cond.instanceMethod mi_W_dropFirst.1 ∈ mtb := mtb_in (tb_3 (List.mem_of_getElem? (i := 186) rfl)) rfl
theorem se_W_dropFirst : Cond.selects mi_W_dropFirst.1.cls mi_W_dropFirst.1 mi_W_dropFirst.1 ∈ mtb := mtb_in (tb_3 (List.mem_of_getElem? (i := 187) rfl)) rfl
theorem mm_W_34 : Cond.methodLink "PacketField$Rows" 34 Lib.Math.min.name ∈ mtb := mtb_in (tb_3 (List.mem_of_getElem? (i := 189) rfl)) rfl
theorem fp_W_28 : mFp "PacketField$Rows" 28 6 1 := ⟨_, _, _, mcl_6, by decide, mtb_in (tb_1 (List.mem_of_getElem? (i := 123) rfl)) rfl, Or.inl rfl⟩
theorem cd_C_tellRoutes : mCd mi_C_tellRoutes 1 := ⟨mtb_in (tb_3 (List.mem_of_getElem? (i := 196) rfl)) rfl, mtb_in (tb_1 (List.mem_of_getElem? (i := 1) rfl)) rfl, by decide, by decide, by decide, by decide +kernel⟩
theorem ml_C_222 : Cond.methodLink "PacketField" 222 mi_C_tellRoutes.1 ∈ mtb := mtb_in (tb_3 (List.mem_of_getElem? (i := 194) rfl)) rfl
theorem sa_C_tellRoutes : Cond.static mi_C_tellRoutes.1 ∈ mtb := mtb_in (tb_3 (List.mem_of_getElem? (i := 195) rfl)) rfl
theorem cd_T_growOld : mCd mi_T_growOld 0 := ⟨mtb_in (tb_3 (List.mem_of_getElem? (i := 200) rfl)) rfl, mtb_in (tb_1 (List.mem_of_getElem? (i := 8) rfl)) rfl, by decide, by decide, by decide, by decide +kernel⟩
theorem ml_C_518 : Cond.methodLink "PacketField" 518 mi_T_growOld.1 ∈ mtb := mtb_in (tb_3 (List.mem_of_getElem? (i := 197) rfl)) rfl
theorem im_T_growOld : Cond.instanceMethod mi_T_growOld.1 ∈ mtb := mtb_in (tb_3 (List.mem_of_getElem? (i := 198) rfl)) rfl
theorem se_T_growOld : Cond.selects mi_T_growOld.1.cls mi_T_growOld.1 mi_T_growOld.1 ∈ mtb := mtb_in (tb_3 (List.mem_of_getElem? (i := 199) rfl)) rfl
theorem cd_T_countBest : mCd mi_T_countBest 0 := ⟨mtb_in (tb_3 (List.mem_of_getElem? (i := 204) rfl)) rfl, mtb_in (tb_1 (List.mem_of_getElem? (i := 8) rfl)) rfl, by decide, by decide, by decide, by decide +kernel⟩
theorem ml_C_521 : Cond.methodLink "PacketField" 521 mi_T_countBest.1 ∈ mtb := mtb_in (tb_3 (List.mem_of_getElem? (i := 201) rfl)) rfl
theorem im_T_countBest : Cond.instanceMethod mi_T_countBest.1 ∈ mtb := mtb_in (tb_3 (List.mem_of_getElem? (i := 202) rfl)) rfl
theorem se_T_countBest : Cond.selects mi_T_countBest.1.cls mi_T_countBest.1 mi_T_countBest.1 ∈ mtb := mtb_in (tb_3 (List.mem_of_getElem? (i := 203) rfl)) rfl
theorem gs_C_524 : Cond.fieldLink "PacketField" 524 "PacketField" "NODES_NAME" "[I" ∈ mtb := mtb_in (tb_3 (List.mem_of_getElem? (i := 206) rfl)) rfl
theorem cd_T_tell : mCd mi_T_tell 1 := ⟨mtb_in (tb_3 (List.mem_of_getElem? (i := 211) rfl)) rfl, mtb_in (tb_1 (List.mem_of_getElem? (i := 8) rfl)) rfl, by decide, by decide, by decide, by decide +kernel⟩
theorem ml_C_527 : Cond.methodLink "PacketField" 527 mi_T_tell.1 ∈ mtb := mtb_in (tb_3 (List.mem_of_getElem? (i := 208) rfl)) rfl
theorem im_T_tell : Cond.instanceMethod mi_T_tell.1 ∈ mtb := mtb_in (tb_3 (List.mem_of_getElem? (i := 209) rfl)) rfl
theorem se_T_tell : Cond.selects mi_T_tell.1.cls mi_T_tell.1 mi_T_tell.1 ∈ mtb := mtb_in (tb_3 (List.mem_of_getElem? (i := 210) rfl)) rfl
theorem fl_T_19 : mFd "PacketField$Routes" 19 5 2 := ⟨_, _, _, mcl_5, by decide, mtb_in (tb_1 (List.mem_of_getElem? (i := 144) rfl)) rfl⟩
theorem ml_T_30 : Cond.methodLink "PacketField$Routes" 30 mi_T_bestTo.1 ∈ mtb := mtb_in (tb_3 (List.mem_of_getElem? (i := 205) rfl)) rfl
theorem ml_T_34 : Cond.methodLink "PacketField$Routes" 34 mi_B_add.1 ∈ mtb := mtb_in (tb_3 (List.mem_of_getElem? (i := 212) rfl)) rfl
theorem fl_C_226 : mFd "PacketField" 226 9 7 := ⟨_, _, _, mcl_9, by decide, mtb_in (tb_2 (List.mem_of_getElem? (i := 155) rfl)) rfl⟩
theorem fp_C_226 : mFp "PacketField" 226 9 7 := ⟨_, _, _, mcl_9, by decide, mtb_in (tb_2 (List.mem_of_getElem? (i := 155) rfl)) rfl, Or.inl rfl⟩
theorem cd_C_drawForChannel : mCd mi_C_drawForChannel 0 := ⟨mtb_in (tb_3 (List.mem_of_getElem? (i := 220) rfl)) rfl, mtb_in (tb_1 (List.mem_of_getElem? (i := 1) rfl)) rfl, by decide, by decide, by decide, by decide +kernel⟩
theorem ml_C_229 : Cond.methodLink "PacketField" 229 mi_C_drawForChannel.1 ∈ mtb := mtb_in (tb_3 (List.mem_of_getElem? (i := 217) rfl)) rfl
theorem im_C_drawForChannel : Cond.instanceMethod mi_C_drawForChannel.1 ∈ mtb := mtb_in (tb_3 (List.mem_of_getElem? (i := 219) rfl)) rfl
theorem se_C_drawForChannel : Cond.selects mi_C_drawForChannel.1.cls mi_C_drawForChannel.1 mi_C_drawForChannel.1 ∈ mtb := mtb_in (List.mem_append_left _ (List.mem_of_getElem? (i := 5) (by decide +kernel))) rfl
theorem cd_C_sendBits : mCd mi_C_sendBits 0 := ⟨mtb_in (tb_3 (List.mem_of_getElem? (i := 228) rfl)) rfl, mtb_in (tb_1 (List.mem_of_getElem? (i := 1) rfl)) rfl, by decide, by decide, by decide, by decide +kernel⟩
theorem ml_C_232 : Cond.methodLink "PacketField" 232 mi_C_sendBits.1 ∈ mtb := mtb_in (tb_3 (List.mem_of_getElem? (i := 225) rfl)) rfl
theorem im_C_sendBits : Cond.instanceMethod mi_C_sendBits.1 ∈ mtb := mtb_in (tb_3 (List.mem_of_getElem? (i := 227) rfl)) rfl
theorem se_C_sendBits : Cond.selects mi_C_sendBits.1.cls mi_C_sendBits.1 mi_C_sendBits.1 ∈ mtb := mtb_in (List.mem_append_left _ (List.mem_of_getElem? (i := 6) (by decide +kernel))) rfl
theorem cd_C_hearLevels : mCd mi_C_hearLevels 0 := ⟨mtb_in (tb_4 (List.mem_of_getElem? (i := 0) rfl)) rfl, mtb_in (tb_1 (List.mem_of_getElem? (i := 1) rfl)) rfl, by decide, by decide, by decide, by decide +kernel⟩
theorem ml_C_235 : Cond.methodLink "PacketField" 235 mi_C_hearLevels.1 ∈ mtb := mtb_in (tb_3 (List.mem_of_getElem? (i := 237) rfl)) rfl
theorem im_C_hearLevels : Cond.instanceMethod mi_C_hearLevels.1 ∈ mtb := mtb_in (tb_3 (List.mem_of_getElem? (i := 239) rfl)) rfl
theorem se_C_hearLevels : Cond.selects mi_C_hearLevels.1.cls mi_C_hearLevels.1 mi_C_hearLevels.1 ∈ mtb := mtb_in (List.mem_append_left _ (List.mem_of_getElem? (i := 8) (by decide +kernel))) rfl
theorem cd_J_bitCount : mCd mi_J_bitCount 1 := ⟨mtb_in (tb_4 (List.mem_of_getElem? (i := 8) rfl)) rfl, mtb_in (tb_1 (List.mem_of_getElem? (i := 14) rfl)) rfl, by decide, by decide, by decide, by decide +kernel⟩
theorem ml_C_239 : Cond.methodLink "PacketField" 239 mi_J_bitCount.1 ∈ mtb := mtb_in (tb_4 (List.mem_of_getElem? (i := 6) rfl)) rfl
theorem sa_J_bitCount : Cond.static mi_J_bitCount.1 ∈ mtb := mtb_in (tb_4 (List.mem_of_getElem? (i := 7) rfl)) rfl
theorem cd_C_takeFrame : mCd mi_C_takeFrame 1 := ⟨mtb_in (tb_4 (List.mem_of_getElem? (i := 28) rfl)) rfl, mtb_in (tb_1 (List.mem_of_getElem? (i := 1) rfl)) rfl, by decide, by decide, by decide, by decide +kernel⟩
theorem ml_C_244 : Cond.methodLink "PacketField" 244 mi_C_takeFrame.1 ∈ mtb := mtb_in (tb_4 (List.mem_of_getElem? (i := 25) rfl)) rfl
theorem im_C_takeFrame : Cond.instanceMethod mi_C_takeFrame.1 ∈ mtb := mtb_in (tb_4 (List.mem_of_getElem? (i := 27) rfl)) rfl
theorem se_C_takeFrame : Cond.selects mi_C_takeFrame.1.cls mi_C_takeFrame.1 mi_C_takeFrame.1 ∈ mtb := mtb_in (List.mem_append_left _ (List.mem_of_getElem? (i := 11) (by decide +kernel))) rfl
theorem cd_C_turnClocks : mCd mi_C_turnClocks 0 := ⟨mtb_in (tb_4 (List.mem_of_getElem? (i := 129) rfl)) rfl, mtb_in (tb_1 (List.mem_of_getElem? (i := 1) rfl)) rfl, by decide, by decide, by decide, by decide +kernel⟩
theorem ml_C_248 : Cond.methodLink "PacketField" 248 mi_C_turnClocks.1 ∈ mtb := mtb_in (tb_4 (List.mem_of_getElem? (i := 126) rfl)) rfl
theorem im_C_turnClocks : Cond.instanceMethod mi_C_turnClocks.1 ∈ mtb := mtb_in (tb_4 (List.mem_of_getElem? (i := 128) rfl)) rfl
theorem se_C_turnClocks : Cond.selects mi_C_turnClocks.1.cls mi_C_turnClocks.1 mi_C_turnClocks.1 ∈ mtb := mtb_in (List.mem_append_left _ (List.mem_of_getElem? (i := 20) (by decide +kernel))) rfl
theorem cd_C_tellRoutesInTime : mCd mi_C_tellRoutesInTime 0 := ⟨mtb_in (tb_4 (List.mem_of_getElem? (i := 136) rfl)) rfl, mtb_in (tb_1 (List.mem_of_getElem? (i := 1) rfl)) rfl, by decide, by decide, by decide, by decide +kernel⟩
theorem ml_C_251 : Cond.methodLink "PacketField" 251 mi_C_tellRoutesInTime.1 ∈ mtb := mtb_in (tb_4 (List.mem_of_getElem? (i := 133) rfl)) rfl
theorem im_C_tellRoutesInTime : Cond.instanceMethod mi_C_tellRoutesInTime.1 ∈ mtb := mtb_in (tb_4 (List.mem_of_getElem? (i := 135) rfl)) rfl
theorem se_C_tellRoutesInTime : Cond.selects mi_C_tellRoutesInTime.1.cls mi_C_tellRoutesInTime.1 mi_C_tellRoutesInTime.1 ∈ mtb := mtb_in (List.mem_append_left _ (List.mem_of_getElem? (i := 21) (by decide +kernel))) rfl
theorem cd_C_sayWhatMayBeSaid : mCd mi_C_sayWhatMayBeSaid 0 := ⟨mtb_in (tb_4 (List.mem_of_getElem? (i := 140) rfl)) rfl, mtb_in (tb_1 (List.mem_of_getElem? (i := 1) rfl)) rfl, by decide, by decide, by decide, by decide +kernel⟩
theorem ml_C_254 : Cond.methodLink "PacketField" 254 mi_C_sayWhatMayBeSaid.1 ∈ mtb := mtb_in (tb_4 (List.mem_of_getElem? (i := 137) rfl)) rfl
theorem im_C_sayWhatMayBeSaid : Cond.instanceMethod mi_C_sayWhatMayBeSaid.1 ∈ mtb := mtb_in (tb_4 (List.mem_of_getElem? (i := 139) rfl)) rfl
theorem se_C_sayWhatMayBeSaid : Cond.selects mi_C_sayWhatMayBeSaid.1.cls mi_C_sayWhatMayBeSaid.1 mi_C_sayWhatMayBeSaid.1 ∈ mtb := mtb_in (List.mem_append_left _ (List.mem_of_getElem? (i := 22) (by decide +kernel))) rfl
theorem fl_C_264 : mFd "PacketField" 264 6 2 := ⟨_, _, _, mcl_6, by decide, mtb_in (tb_1 (List.mem_of_getElem? (i := 126) rfl)) rfl⟩
theorem fl_C_257 : mFd "PacketField" 257 8 2 := ⟨_, _, _, mcl_8, by decide, mtb_in (tb_1 (List.mem_of_getElem? (i := 157) rfl)) rfl⟩
theorem fl_C_260 : mFd "PacketField" 260 7 5 := ⟨_, _, _, mcl_7, by decide, mtb_in (tb_1 (List.mem_of_getElem? (i := 67) rfl)) rfl⟩
theorem fl_C_267 : mFd "PacketField" 267 8 10 := ⟨_, _, _, mcl_8, by decide, mtb_in (tb_1 (List.mem_of_getElem? (i := 171) rfl)) rfl⟩
theorem cd_C_waitOrDraw : mCd mi_C_waitOrDraw 1 := ⟨mtb_in (tb_3 (List.mem_of_getElem? (i := 223) rfl)) rfl, mtb_in (tb_1 (List.mem_of_getElem? (i := 1) rfl)) rfl, by decide, by decide, by decide, by decide +kernel⟩
theorem ml_C_349 : Cond.methodLink "PacketField" 349 mi_C_waitOrDraw.1 ∈ mtb := mtb_in (tb_3 (List.mem_of_getElem? (i := 221) rfl)) rfl
theorem sa_C_waitOrDraw : Cond.static mi_C_waitOrDraw.1 ∈ mtb := mtb_in (tb_3 (List.mem_of_getElem? (i := 222) rfl)) rfl
theorem fl_C_270 : mFd "PacketField" 270 8 9 := ⟨_, _, _, mcl_8, by decide, mtb_in (tb_1 (List.mem_of_getElem? (i := 170) rfl)) rfl⟩
theorem fp_C_270 : mFp "PacketField" 270 8 9 := ⟨_, _, _, mcl_8, by decide, mtb_in (tb_1 (List.mem_of_getElem? (i := 170) rfl)) rfl, Or.inl rfl⟩
theorem ct_C_352 : Cond.constant "PacketField" 352 (1103515245 : Int32) ∈ mtb := mtb_in (tb_3 (List.mem_of_getElem? (i := 224) rfl)) rfl
theorem fp_C_260 : mFp "PacketField" 260 7 5 := ⟨_, _, _, mcl_7, by decide, mtb_in (tb_1 (List.mem_of_getElem? (i := 67) rfl)) rfl, Or.inl rfl⟩
theorem fp_C_353 : mFp "PacketField" 353 7 6 := ⟨_, _, _, mcl_7, by decide, mtb_in (tb_1 (List.mem_of_getElem? (i := 68) rfl)) rfl, Or.inl rfl⟩
theorem fp_C_356 : mFp "PacketField" 356 9 8 := ⟨_, _, _, mcl_9, by decide, mtb_in (tb_2 (List.mem_of_getElem? (i := 156) rfl)) rfl, Or.inl rfl⟩
theorem fp_C_359 : mFp "PacketField" 359 9 9 := ⟨_, _, _, mcl_9, by decide, mtb_in (tb_2 (List.mem_of_getElem? (i := 157) rfl)) rfl, Or.inl rfl⟩
theorem fp_C_362 : mFp "PacketField" 362 9 10 := ⟨_, _, _, mcl_9, by decide, mtb_in (tb_2 (List.mem_of_getElem? (i := 158) rfl)) rfl, Or.inl rfl⟩
theorem cd_C_sendNext : mCd mi_C_sendNext 1 := ⟨mtb_in (tb_3 (List.mem_of_getElem? (i := 232) rfl)) rfl, mtb_in (tb_1 (List.mem_of_getElem? (i := 1) rfl)) rfl, by decide, by decide, by decide, by decide +kernel⟩
theorem ml_C_365 : Cond.methodLink "PacketField" 365 mi_C_sendNext.1 ∈ mtb := mtb_in (tb_3 (List.mem_of_getElem? (i := 229) rfl)) rfl
theorem im_C_sendNext : Cond.instanceMethod mi_C_sendNext.1 ∈ mtb := mtb_in (tb_3 (List.mem_of_getElem? (i := 231) rfl)) rfl
theorem se_C_sendNext : Cond.selects mi_C_sendNext.1.cls mi_C_sendNext.1 mi_C_sendNext.1 ∈ mtb := mtb_in (List.mem_append_left _ (List.mem_of_getElem? (i := 7) (by decide +kernel))) rfl
theorem fl_C_353 : mFd "PacketField" 353 7 6 := ⟨_, _, _, mcl_7, by decide, mtb_in (tb_1 (List.mem_of_getElem? (i := 68) rfl)) rfl⟩
theorem fl_C_273 : mFd "PacketField" 273 8 13 := ⟨_, _, _, mcl_8, by decide, mtb_in (tb_1 (List.mem_of_getElem? (i := 175) rfl)) rfl⟩
theorem fp_C_273 : mFp "PacketField" 273 8 13 := ⟨_, _, _, mcl_8, by decide, mtb_in (tb_1 (List.mem_of_getElem? (i := 175) rfl)) rfl, Or.inl rfl⟩
theorem fl_C_356 : mFd "PacketField" 356 9 8 := ⟨_, _, _, mcl_9, by decide, mtb_in (tb_2 (List.mem_of_getElem? (i := 156) rfl)) rfl⟩
theorem fl_C_359 : mFd "PacketField" 359 9 9 := ⟨_, _, _, mcl_9, by decide, mtb_in (tb_2 (List.mem_of_getElem? (i := 157) rfl)) rfl⟩
theorem cd_S_endsFrame : mCd mi_S_endsFrame 0 := ⟨mtb_in (tb_3 (List.mem_of_getElem? (i := 236) rfl)) rfl, mtb_in (tb_1 (List.mem_of_getElem? (i := 3) rfl)) rfl, by decide, by decide, by decide, by decide +kernel⟩
theorem ml_C_371 : Cond.methodLink "PacketField" 371 mi_S_endsFrame.1 ∈ mtb := mtb_in (tb_3 (List.mem_of_getElem? (i := 233) rfl)) rfl
theorem im_S_endsFrame : Cond.instanceMethod mi_S_endsFrame.1 ∈ mtb := mtb_in (tb_3 (List.mem_of_getElem? (i := 234) rfl)) rfl
theorem se_S_endsFrame : Cond.selects mi_S_endsFrame.1.cls mi_S_endsFrame.1 mi_S_endsFrame.1 ∈ mtb := mtb_in (tb_3 (List.mem_of_getElem? (i := 235) rfl)) rfl
theorem fl_C_362 : mFd "PacketField" 362 9 10 := ⟨_, _, _, mcl_9, by decide, mtb_in (tb_2 (List.mem_of_getElem? (i := 158) rfl)) rfl⟩
theorem fp_C_267 : mFp "PacketField" 267 8 10 := ⟨_, _, _, mcl_8, by decide, mtb_in (tb_1 (List.mem_of_getElem? (i := 171) rfl)) rfl, Or.inl rfl⟩
theorem fl_C_374 : mFd "PacketField" 374 8 3 := ⟨_, _, _, mcl_8, by decide, mtb_in (tb_1 (List.mem_of_getElem? (i := 159) rfl)) rfl⟩
theorem ml_C_377 : Cond.methodLink "PacketField" 377 mi_V_hearNothing.1 ∈ mtb := mtb_in (tb_4 (List.mem_of_getElem? (i := 1) rfl)) rfl
theorem cd_C_levelOf : mCd mi_C_levelOf 2 := ⟨mtb_in (tb_4 (List.mem_of_getElem? (i := 5) rfl)) rfl, mtb_in (tb_1 (List.mem_of_getElem? (i := 1) rfl)) rfl, by decide, by decide, by decide, by decide +kernel⟩
theorem ml_C_380 : Cond.methodLink "PacketField" 380 mi_C_levelOf.1 ∈ mtb := mtb_in (tb_4 (List.mem_of_getElem? (i := 2) rfl)) rfl
theorem im_C_levelOf : Cond.instanceMethod mi_C_levelOf.1 ∈ mtb := mtb_in (tb_4 (List.mem_of_getElem? (i := 4) rfl)) rfl
theorem se_C_levelOf : Cond.selects mi_C_levelOf.1.cls mi_C_levelOf.1 mi_C_levelOf.1 ∈ mtb := mtb_in (List.mem_append_left _ (List.mem_of_getElem? (i := 9) (by decide +kernel))) rfl
theorem fl_C_276 : mFd "PacketField" 276 8 14 := ⟨_, _, _, mcl_8, by decide, mtb_in (tb_1 (List.mem_of_getElem? (i := 176) rfl)) rfl⟩
theorem fp_C_276 : mFp "PacketField" 276 8 14 := ⟨_, _, _, mcl_8, by decide, mtb_in (tb_1 (List.mem_of_getElem? (i := 176) rfl)) rfl, Or.inl rfl⟩
theorem cd_C_isStray : mCd mi_C_isStray 2 := ⟨mtb_in (tb_4 (List.mem_of_getElem? (i := 20) rfl)) rfl, mtb_in (tb_1 (List.mem_of_getElem? (i := 1) rfl)) rfl, by decide, by decide, by decide, by decide +kernel⟩
theorem ml_C_384 : Cond.methodLink "PacketField" 384 mi_C_isStray.1 ∈ mtb := mtb_in (tb_4 (List.mem_of_getElem? (i := 17) rfl)) rfl
theorem im_C_isStray : Cond.instanceMethod mi_C_isStray.1 ∈ mtb := mtb_in (tb_4 (List.mem_of_getElem? (i := 19) rfl)) rfl
theorem se_C_isStray : Cond.selects mi_C_isStray.1.cls mi_C_isStray.1 mi_C_isStray.1 ∈ mtb := mtb_in (List.mem_append_left _ (List.mem_of_getElem? (i := 10) (by decide +kernel))) rfl
theorem fl_C_279 : mFd "PacketField" 279 8 15 := ⟨_, _, _, mcl_8, by decide, mtb_in (tb_1 (List.mem_of_getElem? (i := 177) rfl)) rfl⟩
theorem fp_C_279 : mFp "PacketField" 279 8 15 := ⟨_, _, _, mcl_8, by decide, mtb_in (tb_1 (List.mem_of_getElem? (i := 177) rfl)) rfl, Or.inl rfl⟩
theorem cd_C_hash : mCd mi_C_hash 2 := ⟨mtb_in (tb_4 (List.mem_of_getElem? (i := 14) rfl)) rfl, mtb_in (tb_1 (List.mem_of_getElem? (i := 1) rfl)) rfl, by decide, by decide, by decide, by decide +kernel⟩
theorem ml_C_388 : Cond.methodLink "PacketField" 388 mi_C_hash.1 ∈ mtb := mtb_in (tb_4 (List.mem_of_getElem? (i := 12) rfl)) rfl
theorem sa_C_hash : Cond.static mi_C_hash.1 ∈ mtb := mtb_in (tb_4 (List.mem_of_getElem? (i := 13) rfl)) rfl
theorem ct_J_265 : Cond.constant "java/lang/Integer" 265 (1431655765 : Int32) ∈ mtb := mtb_in (tb_4 (List.mem_of_getElem? (i := 9) rfl)) rfl
theorem ct_J_266 : Cond.constant "java/lang/Integer" 266 (858993459 : Int32) ∈ mtb := mtb_in (tb_4 (List.mem_of_getElem? (i := 10) rfl)) rfl
theorem ct_J_267 : Cond.constant "java/lang/Integer" 267 (252645135 : Int32) ∈ mtb := mtb_in (tb_4 (List.mem_of_getElem? (i := 11) rfl)) rfl
theorem ct_C_391 : Cond.constant "PacketField" 391 (1000003 : Int32) ∈ mtb := mtb_in (tb_4 (List.mem_of_getElem? (i := 15) rfl)) rfl
theorem ct_C_392 : Cond.constant "PacketField" 392 (1540483477 : Int32) ∈ mtb := mtb_in (tb_4 (List.mem_of_getElem? (i := 16) rfl)) rfl
theorem cd_S_hasSent : mCd mi_S_hasSent 1 := ⟨mtb_in (tb_4 (List.mem_of_getElem? (i := 24) rfl)) rfl, mtb_in (tb_1 (List.mem_of_getElem? (i := 3) rfl)) rfl, by decide, by decide, by decide, by decide +kernel⟩
theorem ml_C_393 : Cond.methodLink "PacketField" 393 mi_S_hasSent.1 ∈ mtb := mtb_in (tb_4 (List.mem_of_getElem? (i := 21) rfl)) rfl
theorem im_S_hasSent : Cond.instanceMethod mi_S_hasSent.1 ∈ mtb := mtb_in (tb_4 (List.mem_of_getElem? (i := 22) rfl)) rfl
theorem se_S_hasSent : Cond.selects mi_S_hasSent.1.cls mi_S_hasSent.1 mi_S_hasSent.1 ∈ mtb := mtb_in (tb_4 (List.mem_of_getElem? (i := 23) rfl)) rfl
theorem fl_C_57 : mFd "PacketField" 57 9 6 := ⟨_, _, _, mcl_9, by decide, mtb_in (tb_2 (List.mem_of_getElem? (i := 154) rfl)) rfl⟩
theorem cd_F_understand : mCd mi_F_understand 1 := ⟨mtb_in (tb_4 (List.mem_of_getElem? (i := 32) rfl)) rfl, mtb_in (tb_1 (List.mem_of_getElem? (i := 11) rfl)) rfl, by decide, by decide, by decide, by decide +kernel⟩
theorem ml_C_396 : Cond.methodLink "PacketField" 396 mi_F_understand.1 ∈ mtb := mtb_in (tb_4 (List.mem_of_getElem? (i := 29) rfl)) rfl
theorem im_F_understand : Cond.instanceMethod mi_F_understand.1 ∈ mtb := mtb_in (tb_4 (List.mem_of_getElem? (i := 30) rfl)) rfl
theorem se_F_understand : Cond.selects mi_F_understand.1.cls mi_F_understand.1 mi_F_understand.1 ∈ mtb := mtb_in (tb_4 (List.mem_of_getElem? (i := 31) rfl)) rfl
theorem fl_C_399 : mFd "PacketField" 399 1 3 := ⟨_, _, _, mcl_1, by decide, mtb_in (tb_2 (List.mem_of_getElem? (i := 106) rfl)) rfl⟩
theorem fl_C_406 : mFd "PacketField" 406 1 5 := ⟨_, _, _, mcl_1, by decide, mtb_in (tb_2 (List.mem_of_getElem? (i := 110) rfl)) rfl⟩
theorem fl_C_409 : mFd "PacketField" 409 1 1 := ⟨_, _, _, mcl_1, by decide, mtb_in (tb_2 (List.mem_of_getElem? (i := 103) rfl)) rfl⟩
theorem fl_C_412 : mFd "PacketField" 412 1 10 := ⟨_, _, _, mcl_1, by decide, mtb_in (tb_2 (List.mem_of_getElem? (i := 120) rfl)) rfl⟩
theorem cd_T_learn : mCd mi_T_learn 4 := ⟨mtb_in (tb_4 (List.mem_of_getElem? (i := 76) rfl)) rfl, mtb_in (tb_1 (List.mem_of_getElem? (i := 8) rfl)) rfl, by decide, by decide, by decide, by decide +kernel⟩
theorem ml_C_415 : Cond.methodLink "PacketField" 415 mi_T_learn.1 ∈ mtb := mtb_in (tb_4 (List.mem_of_getElem? (i := 73) rfl)) rfl
theorem im_T_learn : Cond.instanceMethod mi_T_learn.1 ∈ mtb := mtb_in (tb_4 (List.mem_of_getElem? (i := 74) rfl)) rfl
theorem se_T_learn : Cond.selects mi_T_learn.1.cls mi_T_learn.1 mi_T_learn.1 ∈ mtb := mtb_in (tb_4 (List.mem_of_getElem? (i := 75) rfl)) rfl
theorem fl_C_419 : mFd "PacketField" 419 1 0 := ⟨_, _, _, mcl_1, by decide, mtb_in (tb_2 (List.mem_of_getElem? (i := 101) rfl)) rfl⟩
theorem cd_C_takeSabm : mCd mi_C_takeSabm 1 := ⟨mtb_in (tb_4 (List.mem_of_getElem? (i := 85) rfl)) rfl, mtb_in (tb_1 (List.mem_of_getElem? (i := 1) rfl)) rfl, by decide, by decide, by decide, by decide +kernel⟩
theorem ml_C_422 : Cond.methodLink "PacketField" 422 mi_C_takeSabm.1 ∈ mtb := mtb_in (tb_4 (List.mem_of_getElem? (i := 82) rfl)) rfl
theorem im_C_takeSabm : Cond.instanceMethod mi_C_takeSabm.1 ∈ mtb := mtb_in (tb_4 (List.mem_of_getElem? (i := 84) rfl)) rfl
theorem se_C_takeSabm : Cond.selects mi_C_takeSabm.1.cls mi_C_takeSabm.1 mi_C_takeSabm.1 ∈ mtb := mtb_in (List.mem_append_left _ (List.mem_of_getElem? (i := 13) (by decide +kernel))) rfl
theorem fl_C_425 : mFd "PacketField" 425 1 11 := ⟨_, _, _, mcl_1, by decide, mtb_in (tb_2 (List.mem_of_getElem? (i := 122) rfl)) rfl⟩
theorem cd_C_takeWhileUp : mCd mi_C_takeWhileUp 1 := ⟨mtb_in (tb_4 (List.mem_of_getElem? (i := 97) rfl)) rfl, mtb_in (tb_1 (List.mem_of_getElem? (i := 1) rfl)) rfl, by decide, by decide, by decide, by decide +kernel⟩
theorem ml_C_433 : Cond.methodLink "PacketField" 433 mi_C_takeWhileUp.1 ∈ mtb := mtb_in (tb_4 (List.mem_of_getElem? (i := 94) rfl)) rfl
theorem im_C_takeWhileUp : Cond.instanceMethod mi_C_takeWhileUp.1 ∈ mtb := mtb_in (tb_4 (List.mem_of_getElem? (i := 96) rfl)) rfl
theorem se_C_takeWhileUp : Cond.selects mi_C_takeWhileUp.1.cls mi_C_takeWhileUp.1 mi_C_takeWhileUp.1 ∈ mtb := mtb_in (List.mem_append_left _ (List.mem_of_getElem? (i := 15) (by decide +kernel))) rfl
theorem cd_C_takeWhileWaiting : mCd mi_C_takeWhileWaiting 1 := ⟨mtb_in (tb_4 (List.mem_of_getElem? (i := 124) rfl)) rfl, mtb_in (tb_1 (List.mem_of_getElem? (i := 1) rfl)) rfl, by decide, by decide, by decide, by decide +kernel⟩
theorem ml_C_436 : Cond.methodLink "PacketField" 436 mi_C_takeWhileWaiting.1 ∈ mtb := mtb_in (tb_4 (List.mem_of_getElem? (i := 121) rfl)) rfl
theorem im_C_takeWhileWaiting : Cond.instanceMethod mi_C_takeWhileWaiting.1 ∈ mtb := mtb_in (tb_4 (List.mem_of_getElem? (i := 123) rfl)) rfl
theorem se_C_takeWhileWaiting : Cond.selects mi_C_takeWhileWaiting.1.cls mi_C_takeWhileWaiting.1 mi_C_takeWhileWaiting.1 ∈ mtb := mtb_in (List.mem_append_left _ (List.mem_of_getElem? (i := 19) (by decide +kernel))) rfl
theorem cd_C_repeat : mCd mi_C_repeat 2 := ⟨mtb_in (tb_4 (List.mem_of_getElem? (i := 68) rfl)) rfl, mtb_in (tb_1 (List.mem_of_getElem? (i := 1) rfl)) rfl, by decide, by decide, by decide, by decide +kernel⟩
theorem ml_C_402 : Cond.methodLink "PacketField" 402 mi_C_repeat.1 ∈ mtb := mtb_in (tb_4 (List.mem_of_getElem? (i := 65) rfl)) rfl
theorem im_C_repeat : Cond.instanceMethod mi_C_repeat.1 ∈ mtb := mtb_in (tb_4 (List.mem_of_getElem? (i := 67) rfl)) rfl
theorem se_C_repeat : Cond.selects mi_C_repeat.1.cls mi_C_repeat.1 mi_C_repeat.1 ∈ mtb := mtb_in (List.mem_append_left _ (List.mem_of_getElem? (i := 12) (by decide +kernel))) rfl
theorem fl_C_428 : mFd "PacketField" 428 1 4 := ⟨_, _, _, mcl_1, by decide, mtb_in (tb_2 (List.mem_of_getElem? (i := 108) rfl)) rfl⟩
theorem cd_C_answer : mCd mi_C_answer 2 := ⟨mtb_in (tb_4 (List.mem_of_getElem? (i := 89) rfl)) rfl, mtb_in (tb_1 (List.mem_of_getElem? (i := 1) rfl)) rfl, by decide, by decide, by decide, by decide +kernel⟩
theorem ml_C_431 : Cond.methodLink "PacketField" 431 mi_C_answer.1 ∈ mtb := mtb_in (tb_4 (List.mem_of_getElem? (i := 86) rfl)) rfl
theorem im_C_answer : Cond.instanceMethod mi_C_answer.1 ∈ mtb := mtb_in (tb_4 (List.mem_of_getElem? (i := 88) rfl)) rfl
theorem se_C_answer : Cond.selects mi_C_answer.1.cls mi_C_answer.1 mi_C_answer.1 ∈ mtb := mtb_in (List.mem_append_left _ (List.mem_of_getElem? (i := 14) (by decide +kernel))) rfl
theorem cd_F_readAddresses : mCd mi_F_readAddresses 1 := ⟨mtb_in (tb_4 (List.mem_of_getElem? (i := 36) rfl)) rfl, mtb_in (tb_1 (List.mem_of_getElem? (i := 11) rfl)) rfl, by decide, by decide, by decide, by decide +kernel⟩
theorem ml_F_18 : Cond.methodLink "PacketField$Frame" 18 mi_F_readAddresses.1 ∈ mtb := mtb_in (tb_4 (List.mem_of_getElem? (i := 33) rfl)) rfl
theorem im_F_readAddresses : Cond.instanceMethod mi_F_readAddresses.1 ∈ mtb := mtb_in (tb_4 (List.mem_of_getElem? (i := 34) rfl)) rfl
theorem se_F_readAddresses : Cond.selects mi_F_readAddresses.1.cls mi_F_readAddresses.1 mi_F_readAddresses.1 ∈ mtb := mtb_in (tb_4 (List.mem_of_getElem? (i := 35) rfl)) rfl
theorem cd_F_readDirection : mCd mi_F_readDirection 1 := ⟨mtb_in (tb_4 (List.mem_of_getElem? (i := 52) rfl)) rfl, mtb_in (tb_1 (List.mem_of_getElem? (i := 11) rfl)) rfl, by decide, by decide, by decide, by decide +kernel⟩
theorem ml_F_22 : Cond.methodLink "PacketField$Frame" 22 mi_F_readDirection.1 ∈ mtb := mtb_in (tb_4 (List.mem_of_getElem? (i := 49) rfl)) rfl
theorem im_F_readDirection : Cond.instanceMethod mi_F_readDirection.1 ∈ mtb := mtb_in (tb_4 (List.mem_of_getElem? (i := 50) rfl)) rfl
theorem se_F_readDirection : Cond.selects mi_F_readDirection.1.cls mi_F_readDirection.1 mi_F_readDirection.1 ∈ mtb := mtb_in (tb_4 (List.mem_of_getElem? (i := 51) rfl)) rfl
theorem fl_F_25 : mFd "PacketField$Frame" 25 1 2 := ⟨_, _, _, mcl_1, by decide, mtb_in (tb_2 (List.mem_of_getElem? (i := 104) rfl)) rfl⟩
theorem ml_F_29 : Cond.methodLink "PacketField$Frame" 29 mi_B_at.1 ∈ mtb := mtb_in (tb_4 (List.mem_of_getElem? (i := 41) rfl)) rfl
theorem fl_F_35 : mFd "PacketField$Frame" 35 1 0 := ⟨_, _, _, mcl_1, by decide, mtb_in (tb_2 (List.mem_of_getElem? (i := 100) rfl)) rfl⟩
theorem cd_F_readNodes : mCd mi_F_readNodes 2 := ⟨mtb_in (tb_4 (List.mem_of_getElem? (i := 56) rfl)) rfl, mtb_in (tb_1 (List.mem_of_getElem? (i := 11) rfl)) rfl, by decide, by decide, by decide, by decide +kernel⟩
theorem ml_F_38 : Cond.methodLink "PacketField$Frame" 38 mi_F_readNodes.1 ∈ mtb := mtb_in (tb_4 (List.mem_of_getElem? (i := 53) rfl)) rfl
theorem im_F_readNodes : Cond.instanceMethod mi_F_readNodes.1 ∈ mtb := mtb_in (tb_4 (List.mem_of_getElem? (i := 54) rfl)) rfl
theorem se_F_readNodes : Cond.selects mi_F_readNodes.1.cls mi_F_readNodes.1 mi_F_readNodes.1 ∈ mtb := mtb_in (tb_4 (List.mem_of_getElem? (i := 55) rfl)) rfl
theorem cd_F_readInformation : mCd mi_F_readInformation 2 := ⟨mtb_in (tb_4 (List.mem_of_getElem? (i := 60) rfl)) rfl, mtb_in (tb_1 (List.mem_of_getElem? (i := 11) rfl)) rfl, by decide, by decide, by decide, by decide +kernel⟩
theorem ml_F_42 : Cond.methodLink "PacketField$Frame" 42 mi_F_readInformation.1 ∈ mtb := mtb_in (tb_4 (List.mem_of_getElem? (i := 57) rfl)) rfl
theorem im_F_readInformation : Cond.instanceMethod mi_F_readInformation.1 ∈ mtb := mtb_in (tb_4 (List.mem_of_getElem? (i := 58) rfl)) rfl
theorem se_F_readInformation : Cond.selects mi_F_readInformation.1.cls mi_F_readInformation.1 mi_F_readInformation.1 ∈ mtb := mtb_in (tb_4 (List.mem_of_getElem? (i := 59) rfl)) rfl
theorem cd_F_readOther : mCd mi_F_readOther 2 := ⟨mtb_in (tb_4 (List.mem_of_getElem? (i := 64) rfl)) rfl, mtb_in (tb_1 (List.mem_of_getElem? (i := 11) rfl)) rfl, by decide, by decide, by decide, by decide +kernel⟩
theorem ml_F_45 : Cond.methodLink "PacketField$Frame" 45 mi_F_readOther.1 ∈ mtb := mtb_in (tb_4 (List.mem_of_getElem? (i := 61) rfl)) rfl
theorem im_F_readOther : Cond.instanceMethod mi_F_readOther.1 ∈ mtb := mtb_in (tb_4 (List.mem_of_getElem? (i := 62) rfl)) rfl
theorem se_F_readOther : Cond.selects mi_F_readOther.1.cls mi_F_readOther.1 mi_F_readOther.1 ∈ mtb := mtb_in (tb_4 (List.mem_of_getElem? (i := 63) rfl)) rfl
theorem fp_F_25 : mFp "PacketField$Frame" 25 1 2 := ⟨_, _, _, mcl_1, by decide, mtb_in (tb_2 (List.mem_of_getElem? (i := 104) rfl)) rfl, Or.inl rfl⟩
theorem fp_F_48 : mFp "PacketField$Frame" 48 1 3 := ⟨_, _, _, mcl_1, by decide, mtb_in (tb_2 (List.mem_of_getElem? (i := 105) rfl)) rfl, Or.inl rfl⟩
theorem cd_F_addressAt : mCd mi_F_addressAt 2 := ⟨mtb_in (tb_4 (List.mem_of_getElem? (i := 40) rfl)) rfl, mtb_in (tb_1 (List.mem_of_getElem? (i := 11) rfl)) rfl, by decide, by decide, by decide, by decide +kernel⟩
theorem ml_F_51 : Cond.methodLink "PacketField$Frame" 51 mi_F_addressAt.1 ∈ mtb := mtb_in (tb_4 (List.mem_of_getElem? (i := 37) rfl)) rfl
theorem im_F_addressAt : Cond.instanceMethod mi_F_addressAt.1 ∈ mtb := mtb_in (tb_4 (List.mem_of_getElem? (i := 38) rfl)) rfl
theorem se_F_addressAt : Cond.selects mi_F_addressAt.1.cls mi_F_addressAt.1 mi_F_addressAt.1 ∈ mtb := mtb_in (tb_4 (List.mem_of_getElem? (i := 39) rfl)) rfl
theorem fl_F_48 : mFd "PacketField$Frame" 48 1 3 := ⟨_, _, _, mcl_1, by decide, mtb_in (tb_2 (List.mem_of_getElem? (i := 105) rfl)) rfl⟩
theorem gn_F_69 : Cond.fieldLinkNest "PacketField$Frame" 69 "PacketField" "NODES_NAME" "[I" "PacketField" ∈ mnw := List.mem_of_getElem? (i := 10) rfl
theorem cd_B_isNamed : mCd mi_B_isNamed 2 := ⟨mtb_in (tb_4 (List.mem_of_getElem? (i := 46) rfl)) rfl, mtb_in (tb_1 (List.mem_of_getElem? (i := 4) rfl)) rfl, by decide, by decide, by decide, by decide +kernel⟩
theorem ml_F_73 : Cond.methodLink "PacketField$Frame" 73 mi_B_isNamed.1 ∈ mtb := mtb_in (tb_4 (List.mem_of_getElem? (i := 43) rfl)) rfl
theorem im_B_isNamed : Cond.instanceMethod mi_B_isNamed.1 ∈ mtb := mtb_in (tb_4 (List.mem_of_getElem? (i := 44) rfl)) rfl
theorem se_B_isNamed : Cond.selects mi_B_isNamed.1.cls mi_B_isNamed.1 mi_B_isNamed.1 ∈ mtb := mtb_in (tb_4 (List.mem_of_getElem? (i := 45) rfl)) rfl
theorem mn_F_77 : Cond.methodLinkNest "PacketField$Frame" 77 mi_C_isStation.1 "PacketField" ∈ mnw := List.mem_of_getElem? (i := 11) rfl
theorem gn_F_81 : Cond.fieldLinkNest "PacketField$Frame" 81 "PacketField" "STATION_NAME" "[I" "PacketField" ∈ mnw := List.mem_of_getElem? (i := 12) rfl
theorem fp_F_35 : mFp "PacketField$Frame" 35 1 0 := ⟨_, _, _, mcl_1, by decide, mtb_in (tb_2 (List.mem_of_getElem? (i := 100) rfl)) rfl, Or.inl rfl⟩
theorem fp_F_55 : mFp "PacketField$Frame" 55 1 1 := ⟨_, _, _, mcl_1, by decide, mtb_in (tb_2 (List.mem_of_getElem? (i := 102) rfl)) rfl, Or.inl rfl⟩
theorem fp_F_58 : mFp "PacketField$Frame" 58 1 4 := ⟨_, _, _, mcl_1, by decide, mtb_in (tb_2 (List.mem_of_getElem? (i := 107) rfl)) rfl, Or.inl rfl⟩
theorem fl_F_12 : mFd "PacketField$Frame" 12 1 11 := ⟨_, _, _, mcl_1, by decide, mtb_in (tb_2 (List.mem_of_getElem? (i := 121) rfl)) rfl⟩
theorem fl_F_55 : mFd "PacketField$Frame" 55 1 1 := ⟨_, _, _, mcl_1, by decide, mtb_in (tb_2 (List.mem_of_getElem? (i := 102) rfl)) rfl⟩
theorem fp_F_62 : mFp "PacketField$Frame" 62 3 0 := ⟨_, _, _, mcl_3, by decide, mtb_in (tb_1 (List.mem_of_getElem? (i := 231) rfl)) rfl, Or.inl rfl⟩
theorem fp_F_63 : mFp "PacketField$Frame" 63 3 1 := ⟨_, _, _, mcl_3, by decide, mtb_in (tb_1 (List.mem_of_getElem? (i := 234) rfl)) rfl, Or.inl rfl⟩
theorem fp_F_66 : mFp "PacketField$Frame" 66 3 2 := ⟨_, _, _, mcl_3, by decide, mtb_in (tb_1 (List.mem_of_getElem? (i := 237) rfl)) rfl, Or.inl rfl⟩
theorem fl_F_58 : mFd "PacketField$Frame" 58 1 4 := ⟨_, _, _, mcl_1, by decide, mtb_in (tb_2 (List.mem_of_getElem? (i := 107) rfl)) rfl⟩
theorem fp_F_84 : mFp "PacketField$Frame" 84 1 5 := ⟨_, _, _, mcl_1, by decide, mtb_in (tb_2 (List.mem_of_getElem? (i := 109) rfl)) rfl, Or.inl rfl⟩
theorem fp_F_87 : mFp "PacketField$Frame" 87 1 10 := ⟨_, _, _, mcl_1, by decide, mtb_in (tb_2 (List.mem_of_getElem? (i := 119) rfl)) rfl, Or.inl rfl⟩
theorem fl_F_90 : mFd "PacketField$Frame" 90 0 1 := ⟨_, _, _, mcl_0, by decide, mtb_in (tb_1 (List.mem_of_getElem? (i := 53) rfl)) rfl⟩
theorem fl_F_87 : mFd "PacketField$Frame" 87 1 10 := ⟨_, _, _, mcl_1, by decide, mtb_in (tb_2 (List.mem_of_getElem? (i := 119) rfl)) rfl⟩
theorem fp_F_93 : mFp "PacketField$Frame" 93 1 6 := ⟨_, _, _, mcl_1, by decide, mtb_in (tb_2 (List.mem_of_getElem? (i := 111) rfl)) rfl, Or.inl rfl⟩
theorem fp_F_96 : mFp "PacketField$Frame" 96 1 7 := ⟨_, _, _, mcl_1, by decide, mtb_in (tb_2 (List.mem_of_getElem? (i := 113) rfl)) rfl, Or.inl rfl⟩
theorem fp_F_99 : mFp "PacketField$Frame" 99 1 8 := ⟨_, _, _, mcl_1, by decide, mtb_in (tb_2 (List.mem_of_getElem? (i := 115) rfl)) rfl, Or.inl rfl⟩
theorem fp_F_102 : mFp "PacketField$Frame" 102 3 3 := ⟨_, _, _, mcl_3, by decide, mtb_in (tb_2 (List.mem_of_getElem? (i := 0) rfl)) rfl, Or.inl rfl⟩
theorem fp_F_105 : mFp "PacketField$Frame" 105 1 9 := ⟨_, _, _, mcl_1, by decide, mtb_in (tb_2 (List.mem_of_getElem? (i := 117) rfl)) rfl, Or.inl rfl⟩
theorem fl_F_105 : mFd "PacketField$Frame" 105 1 9 := ⟨_, _, _, mcl_1, by decide, mtb_in (tb_2 (List.mem_of_getElem? (i := 117) rfl)) rfl⟩
theorem fl_F_93 : mFd "PacketField$Frame" 93 1 6 := ⟨_, _, _, mcl_1, by decide, mtb_in (tb_2 (List.mem_of_getElem? (i := 111) rfl)) rfl⟩
theorem fl_F_84 : mFd "PacketField$Frame" 84 1 5 := ⟨_, _, _, mcl_1, by decide, mtb_in (tb_2 (List.mem_of_getElem? (i := 109) rfl)) rfl⟩
theorem cd_F_viaAt : mCd mi_F_viaAt 1 := ⟨mtb_in (tb_4 (List.mem_of_getElem? (i := 72) rfl)) rfl, mtb_in (tb_1 (List.mem_of_getElem? (i := 11) rfl)) rfl, by decide, by decide, by decide, by decide +kernel⟩
theorem ml_C_439 : Cond.methodLink "PacketField" 439 mi_F_viaAt.1 ∈ mtb := mtb_in (tb_4 (List.mem_of_getElem? (i := 69) rfl)) rfl
theorem im_F_viaAt : Cond.instanceMethod mi_F_viaAt.1 ∈ mtb := mtb_in (tb_4 (List.mem_of_getElem? (i := 70) rfl)) rfl
theorem se_F_viaAt : Cond.selects mi_F_viaAt.1.cls mi_F_viaAt.1 mi_F_viaAt.1 ∈ mtb := mtb_in (tb_4 (List.mem_of_getElem? (i := 71) rfl)) rfl
theorem cd_T_put : mCd mi_T_put 3 := ⟨mtb_in (tb_4 (List.mem_of_getElem? (i := 80) rfl)) rfl, mtb_in (tb_1 (List.mem_of_getElem? (i := 8) rfl)) rfl, by decide, by decide, by decide, by decide +kernel⟩
theorem ml_T_40 : Cond.methodLink "PacketField$Routes" 40 mi_T_put.1 ∈ mtb := mtb_in (tb_4 (List.mem_of_getElem? (i := 77) rfl)) rfl
theorem im_T_put : Cond.instanceMethod mi_T_put.1 ∈ mtb := mtb_in (tb_4 (List.mem_of_getElem? (i := 78) rfl)) rfl
theorem se_T_put : Cond.selects mi_T_put.1.cls mi_T_put.1 mi_T_put.1 ∈ mtb := mtb_in (tb_4 (List.mem_of_getElem? (i := 79) rfl)) rfl
theorem fl_T_44 : mFd "PacketField$Routes" 44 0 1 := ⟨_, _, _, mcl_0, by decide, mtb_in (tb_1 (List.mem_of_getElem? (i := 54) rfl)) rfl⟩
theorem ml_T_47 : Cond.methodLink "PacketField$Routes" 47 mi_B_at.1 ∈ mtb := mtb_in (tb_4 (List.mem_of_getElem? (i := 81) rfl)) rfl
theorem fl_T_9 : mFd "PacketField$Routes" 9 5 0 := ⟨_, _, _, mcl_5, by decide, mtb_in (tb_1 (List.mem_of_getElem? (i := 142) rfl)) rfl⟩
theorem fl_C_450 : mFd "PacketField" 450 2 17 := ⟨_, _, _, mcl_2, by decide, mtb_in (tb_2 (List.mem_of_getElem? (i := 48) rfl)) rfl⟩
theorem fp_C_450 : mFp "PacketField" 450 2 17 := ⟨_, _, _, mcl_2, by decide, mtb_in (tb_2 (List.mem_of_getElem? (i := 48) rfl)) rfl, Or.inl rfl⟩
theorem cd_P_become : mCd mi_P_become 1 := ⟨mtb_in (tb_4 (List.mem_of_getElem? (i := 93) rfl)) rfl, mtb_in (tb_1 (List.mem_of_getElem? (i := 10) rfl)) rfl, by decide, by decide, by decide, by decide +kernel⟩
theorem ml_C_453 : Cond.methodLink "PacketField" 453 mi_P_become.1 ∈ mtb := mtb_in (tb_4 (List.mem_of_getElem? (i := 90) rfl)) rfl
theorem im_P_become : Cond.instanceMethod mi_P_become.1 ∈ mtb := mtb_in (tb_4 (List.mem_of_getElem? (i := 91) rfl)) rfl
theorem se_P_become : Cond.selects mi_P_become.1.cls mi_P_become.1 mi_P_become.1 ∈ mtb := mtb_in (tb_4 (List.mem_of_getElem? (i := 92) rfl)) rfl
theorem fl_C_463 : mFd "PacketField" 463 1 6 := ⟨_, _, _, mcl_1, by decide, mtb_in (tb_2 (List.mem_of_getElem? (i := 112) rfl)) rfl⟩
theorem fl_P_18 : mFd "PacketField$Path" 18 3 0 := ⟨_, _, _, mcl_3, by decide, mtb_in (tb_1 (List.mem_of_getElem? (i := 230) rfl)) rfl⟩
theorem fp_P_18 : mFp "PacketField$Path" 18 3 0 := ⟨_, _, _, mcl_3, by decide, mtb_in (tb_1 (List.mem_of_getElem? (i := 230) rfl)) rfl, Or.inl rfl⟩
theorem fl_P_9 : mFd "PacketField$Path" 9 3 1 := ⟨_, _, _, mcl_3, by decide, mtb_in (tb_1 (List.mem_of_getElem? (i := 233) rfl)) rfl⟩
theorem fl_P_15 : mFd "PacketField$Path" 15 3 2 := ⟨_, _, _, mcl_3, by decide, mtb_in (tb_1 (List.mem_of_getElem? (i := 236) rfl)) rfl⟩
theorem fl_P_21 : mFd "PacketField$Path" 21 3 3 := ⟨_, _, _, mcl_3, by decide, mtb_in (tb_1 (List.mem_of_getElem? (i := 239) rfl)) rfl⟩
theorem fp_P_21 : mFp "PacketField$Path" 21 3 3 := ⟨_, _, _, mcl_3, by decide, mtb_in (tb_1 (List.mem_of_getElem? (i := 239) rfl)) rfl, Or.inl rfl⟩
theorem cd_C_acknowledge : mCd mi_C_acknowledge 1 := ⟨mtb_in (tb_4 (List.mem_of_getElem? (i := 106) rfl)) rfl, mtb_in (tb_1 (List.mem_of_getElem? (i := 1) rfl)) rfl, by decide, by decide, by decide, by decide +kernel⟩
theorem ml_C_466 : Cond.methodLink "PacketField" 466 mi_C_acknowledge.1 ∈ mtb := mtb_in (tb_4 (List.mem_of_getElem? (i := 103) rfl)) rfl
theorem im_C_acknowledge : Cond.instanceMethod mi_C_acknowledge.1 ∈ mtb := mtb_in (tb_4 (List.mem_of_getElem? (i := 105) rfl)) rfl
theorem se_C_acknowledge : Cond.selects mi_C_acknowledge.1.cls mi_C_acknowledge.1 mi_C_acknowledge.1 ∈ mtb := mtb_in (List.mem_append_left _ (List.mem_of_getElem? (i := 16) (by decide +kernel))) rfl
theorem cd_C_takeInformation : mCd mi_C_takeInformation 1 := ⟨mtb_in (tb_4 (List.mem_of_getElem? (i := 110) rfl)) rfl, mtb_in (tb_1 (List.mem_of_getElem? (i := 1) rfl)) rfl, by decide, by decide, by decide, by decide +kernel⟩
theorem ml_C_470 : Cond.methodLink "PacketField" 470 mi_C_takeInformation.1 ∈ mtb := mtb_in (tb_4 (List.mem_of_getElem? (i := 107) rfl)) rfl
theorem im_C_takeInformation : Cond.instanceMethod mi_C_takeInformation.1 ∈ mtb := mtb_in (tb_4 (List.mem_of_getElem? (i := 109) rfl)) rfl
theorem se_C_takeInformation : Cond.selects mi_C_takeInformation.1.cls mi_C_takeInformation.1 mi_C_takeInformation.1 ∈ mtb := mtb_in (List.mem_append_left _ (List.mem_of_getElem? (i := 17) (by decide +kernel))) rfl
theorem cd_K_goDown : mCd mi_K_goDown 0 := ⟨mtb_in (tb_4 (List.mem_of_getElem? (i := 101) rfl)) rfl, mtb_in (tb_1 (List.mem_of_getElem? (i := 9) rfl)) rfl, by decide, by decide, by decide, by decide +kernel⟩
theorem ml_C_457 : Cond.methodLink "PacketField" 457 mi_K_goDown.1 ∈ mtb := mtb_in (tb_4 (List.mem_of_getElem? (i := 98) rfl)) rfl
theorem im_K_goDown : Cond.instanceMethod mi_K_goDown.1 ∈ mtb := mtb_in (tb_4 (List.mem_of_getElem? (i := 99) rfl)) rfl
theorem se_K_goDown : Cond.selects mi_K_goDown.1.cls mi_K_goDown.1 mi_K_goDown.1 ∈ mtb := mtb_in (tb_4 (List.mem_of_getElem? (i := 100) rfl)) rfl
theorem cd_C_takeSupervision : mCd mi_C_takeSupervision 1 := ⟨mtb_in (tb_4 (List.mem_of_getElem? (i := 114) rfl)) rfl, mtb_in (tb_1 (List.mem_of_getElem? (i := 1) rfl)) rfl, by decide, by decide, by decide, by decide +kernel⟩
theorem ml_C_473 : Cond.methodLink "PacketField" 473 mi_C_takeSupervision.1 ∈ mtb := mtb_in (tb_4 (List.mem_of_getElem? (i := 111) rfl)) rfl
theorem im_C_takeSupervision : Cond.instanceMethod mi_C_takeSupervision.1 ∈ mtb := mtb_in (tb_4 (List.mem_of_getElem? (i := 113) rfl)) rfl
theorem se_C_takeSupervision : Cond.selects mi_C_takeSupervision.1.cls mi_C_takeSupervision.1 mi_C_takeSupervision.1 ∈ mtb := mtb_in (List.mem_append_left _ (List.mem_of_getElem? (i := 18) (by decide +kernel))) rfl
theorem ml_K_99 : Cond.methodLink "PacketField$Link" 99 mi_K_restart.1 ∈ mtb := mtb_in (tb_4 (List.mem_of_getElem? (i := 102) rfl)) rfl
theorem fl_K_46 : mFd "PacketField$Link" 46 2 5 := ⟨_, _, _, mcl_2, by decide, mtb_in (tb_2 (List.mem_of_getElem? (i := 25) rfl)) rfl⟩
theorem fl_C_476 : mFd "PacketField" 476 1 7 := ⟨_, _, _, mcl_1, by decide, mtb_in (tb_2 (List.mem_of_getElem? (i := 114) rfl)) rfl⟩
theorem fl_C_291 : mFd "PacketField" 291 2 9 := ⟨_, _, _, mcl_2, by decide, mtb_in (tb_2 (List.mem_of_getElem? (i := 34) rfl)) rfl⟩
theorem fl_C_288 : mFd "PacketField" 288 2 8 := ⟨_, _, _, mcl_2, by decide, mtb_in (tb_2 (List.mem_of_getElem? (i := 32) rfl)) rfl⟩
theorem fl_C_312 : mFd "PacketField" 312 2 6 := ⟨_, _, _, mcl_2, by decide, mtb_in (tb_2 (List.mem_of_getElem? (i := 28) rfl)) rfl⟩
theorem fp_C_291 : mFp "PacketField" 291 2 9 := ⟨_, _, _, mcl_2, by decide, mtb_in (tb_2 (List.mem_of_getElem? (i := 34) rfl)) rfl, Or.inl rfl⟩
theorem fl_C_297 : mFd "PacketField" 297 2 13 := ⟨_, _, _, mcl_2, by decide, mtb_in (tb_2 (List.mem_of_getElem? (i := 42) rfl)) rfl⟩
theorem fl_C_482 : mFd "PacketField" 482 1 8 := ⟨_, _, _, mcl_1, by decide, mtb_in (tb_2 (List.mem_of_getElem? (i := 116) rfl)) rfl⟩
theorem fp_C_294 : mFp "PacketField" 294 2 10 := ⟨_, _, _, mcl_2, by decide, mtb_in (tb_2 (List.mem_of_getElem? (i := 36) rfl)) rfl, Or.inl rfl⟩
theorem fp_C_300 : mFp "PacketField" 300 2 14 := ⟨_, _, _, mcl_2, by decide, mtb_in (tb_2 (List.mem_of_getElem? (i := 44) rfl)) rfl, Or.inl rfl⟩
theorem fl_C_485 : mFd "PacketField" 485 1 9 := ⟨_, _, _, mcl_1, by decide, mtb_in (tb_2 (List.mem_of_getElem? (i := 118) rfl)) rfl⟩
theorem fl_C_300 : mFd "PacketField" 300 2 14 := ⟨_, _, _, mcl_2, by decide, mtb_in (tb_2 (List.mem_of_getElem? (i := 44) rfl)) rfl⟩
theorem fp_C_303 : mFp "PacketField" 303 2 15 := ⟨_, _, _, mcl_2, by decide, mtb_in (tb_2 (List.mem_of_getElem? (i := 46) rfl)) rfl, Or.inl rfl⟩
theorem fp_C_297 : mFp "PacketField" 297 2 13 := ⟨_, _, _, mcl_2, by decide, mtb_in (tb_2 (List.mem_of_getElem? (i := 42) rfl)) rfl, Or.inl rfl⟩
theorem cd_C_sayAgain : mCd mi_C_sayAgain 1 := ⟨mtb_in (tb_4 (List.mem_of_getElem? (i := 117) rfl)) rfl, mtb_in (tb_1 (List.mem_of_getElem? (i := 1) rfl)) rfl, by decide, by decide, by decide, by decide +kernel⟩
theorem ml_C_479 : Cond.methodLink "PacketField" 479 mi_C_sayAgain.1 ∈ mtb := mtb_in (tb_4 (List.mem_of_getElem? (i := 115) rfl)) rfl
theorem sa_C_sayAgain : Cond.static mi_C_sayAgain.1 ∈ mtb := mtb_in (tb_4 (List.mem_of_getElem? (i := 116) rfl)) rfl
theorem fl_C_303 : mFd "PacketField" 303 2 15 := ⟨_, _, _, mcl_2, by decide, mtb_in (tb_2 (List.mem_of_getElem? (i := 46) rfl)) rfl⟩
theorem cd_C_sayInformation : mCd mi_C_sayInformation 3 := ⟨mtb_in (tb_4 (List.mem_of_getElem? (i := 120) rfl)) rfl, mtb_in (tb_1 (List.mem_of_getElem? (i := 1) rfl)) rfl, by decide, by decide, by decide, by decide +kernel⟩
theorem ml_C_496 : Cond.methodLink "PacketField" 496 mi_C_sayInformation.1 ∈ mtb := mtb_in (tb_4 (List.mem_of_getElem? (i := 118) rfl)) rfl
theorem sa_C_sayInformation : Cond.static mi_C_sayInformation.1 ∈ mtb := mtb_in (tb_4 (List.mem_of_getElem? (i := 119) rfl)) rfl
theorem ml_C_460 : Cond.methodLink "PacketField" 460 mi_K_enter.1 ∈ mtb := mtb_in (tb_4 (List.mem_of_getElem? (i := 125) rfl)) rfl
theorem fl_C_503 : mFd "PacketField" 503 8 11 := ⟨_, _, _, mcl_8, by decide, mtb_in (tb_1 (List.mem_of_getElem? (i := 173) rfl)) rfl⟩
theorem fl_C_173 : mFd "PacketField" 173 2 11 := ⟨_, _, _, mcl_2, by decide, mtb_in (tb_2 (List.mem_of_getElem? (i := 38) rfl)) rfl⟩
theorem cd_C_tryAgain : mCd mi_C_tryAgain 1 := ⟨mtb_in (tb_4 (List.mem_of_getElem? (i := 132) rfl)) rfl, mtb_in (tb_1 (List.mem_of_getElem? (i := 1) rfl)) rfl, by decide, by decide, by decide, by decide +kernel⟩
theorem ml_C_506 : Cond.methodLink "PacketField" 506 mi_C_tryAgain.1 ∈ mtb := mtb_in (tb_4 (List.mem_of_getElem? (i := 130) rfl)) rfl
theorem sa_C_tryAgain : Cond.static mi_C_tryAgain.1 ∈ mtb := mtb_in (tb_4 (List.mem_of_getElem? (i := 131) rfl)) rfl
theorem fl_C_166 : mFd "PacketField" 166 2 12 := ⟨_, _, _, mcl_2, by decide, mtb_in (tb_2 (List.mem_of_getElem? (i := 40) rfl)) rfl⟩
theorem cd_K_hasWork : mCd mi_K_hasWork 0 := ⟨mtb_in (tb_4 (List.mem_of_getElem? (i := 144) rfl)) rfl, mtb_in (tb_1 (List.mem_of_getElem? (i := 9) rfl)) rfl, by decide, by decide, by decide, by decide +kernel⟩
theorem ml_C_509 : Cond.methodLink "PacketField" 509 mi_K_hasWork.1 ∈ mtb := mtb_in (tb_4 (List.mem_of_getElem? (i := 141) rfl)) rfl
theorem im_K_hasWork : Cond.instanceMethod mi_K_hasWork.1 ∈ mtb := mtb_in (tb_4 (List.mem_of_getElem? (i := 142) rfl)) rfl
theorem se_K_hasWork : Cond.selects mi_K_hasWork.1.cls mi_K_hasWork.1 mi_K_hasWork.1 ∈ mtb := mtb_in (tb_4 (List.mem_of_getElem? (i := 143) rfl)) rfl
theorem cd_C_sayNext : mCd mi_C_sayNext 1 := ⟨mtb_in (tb_4 (List.mem_of_getElem? (i := 147) rfl)) rfl, mtb_in (tb_1 (List.mem_of_getElem? (i := 1) rfl)) rfl, by decide, by decide, by decide, by decide +kernel⟩
theorem ml_C_512 : Cond.methodLink "PacketField" 512 mi_C_sayNext.1 ∈ mtb := mtb_in (tb_4 (List.mem_of_getElem? (i := 145) rfl)) rfl
theorem sa_C_sayNext : Cond.static mi_C_sayNext.1 ∈ mtb := mtb_in (tb_4 (List.mem_of_getElem? (i := 146) rfl)) rfl
theorem fl_K_56 : mFd "PacketField$Link" 56 6 2 := ⟨_, _, _, mcl_6, by decide, mtb_in (tb_1 (List.mem_of_getElem? (i := 125) rfl)) rfl⟩
theorem cd_C_sayContent : mCd mi_C_sayContent 1 := ⟨mtb_in (tb_4 (List.mem_of_getElem? (i := 150) rfl)) rfl, mtb_in (tb_1 (List.mem_of_getElem? (i := 1) rfl)) rfl, by decide, by decide, by decide, by decide +kernel⟩
theorem ml_C_515 : Cond.methodLink "PacketField" 515 mi_C_sayContent.1 ∈ mtb := mtb_in (tb_4 (List.mem_of_getElem? (i := 148) rfl)) rfl
theorem sa_C_sayContent : Cond.static mi_C_sayContent.1 ∈ mtb := mtb_in (tb_4 (List.mem_of_getElem? (i := 149) rfl)) rfl
theorem fp_C_288 : mFp "PacketField" 288 2 8 := ⟨_, _, _, mcl_2, by decide, mtb_in (tb_2 (List.mem_of_getElem? (i := 32) rfl)) rfl, Or.inl rfl⟩
theorem ml_C_322 : Cond.methodLink "PacketField" 322 mi_T_qualityOf.1 ∈ mtb := mtb_in (tb_4 (List.mem_of_getElem? (i := 167) rfl)) rfl
theorem cd_T_ageOf : mCd mi_T_ageOf 2 := ⟨mtb_in (tb_4 (List.mem_of_getElem? (i := 171) rfl)) rfl, mtb_in (tb_1 (List.mem_of_getElem? (i := 8) rfl)) rfl, by decide, by decide, by decide, by decide +kernel⟩
theorem ml_C_327 : Cond.methodLink "PacketField" 327 mi_T_ageOf.1 ∈ mtb := mtb_in (tb_4 (List.mem_of_getElem? (i := 168) rfl)) rfl
theorem im_T_ageOf : Cond.instanceMethod mi_T_ageOf.1 ∈ mtb := mtb_in (tb_4 (List.mem_of_getElem? (i := 169) rfl)) rfl
theorem se_T_ageOf : Cond.selects mi_T_ageOf.1.cls mi_T_ageOf.1 mi_T_ageOf.1 ∈ mtb := mtb_in (tb_4 (List.mem_of_getElem? (i := 170) rfl)) rfl
theorem mo_M_1 : Cond.methodLink "PacketFieldModel" 1 Lib.objectInit ∈ mtb := mtb_in (tb_4 (List.mem_of_getElem? (i := 185) rfl)) rfl
theorem fp_M_7 : mFp "PacketFieldModel" 7 10 0 := ⟨_, _, _, mcl_10, by decide, mtb_in (tb_4 (List.mem_of_getElem? (i := 186) rfl)) rfl, Or.inr ⟨rfl, rfl⟩⟩
theorem fp_M_13 : mFp "PacketFieldModel" 13 10 2 := ⟨_, _, _, mcl_10, by decide, mtb_in (tb_4 (List.mem_of_getElem? (i := 188) rfl)) rfl, Or.inr ⟨rfl, rfl⟩⟩
theorem fp_M_16 : mFp "PacketFieldModel" 16 10 4 := ⟨_, _, _, mcl_10, by decide, mtb_in (tb_4 (List.mem_of_getElem? (i := 190) rfl)) rfl, Or.inr ⟨rfl, rfl⟩⟩
theorem fp_M_19 : mFp "PacketFieldModel" 19 10 7 := ⟨_, _, _, mcl_10, by decide, mtb_in (tb_4 (List.mem_of_getElem? (i := 193) rfl)) rfl, Or.inr ⟨rfl, rfl⟩⟩
theorem fp_M_22 : mFp "PacketFieldModel" 22 10 8 := ⟨_, _, _, mcl_10, by decide, mtb_in (tb_4 (List.mem_of_getElem? (i := 194) rfl)) rfl, Or.inr ⟨rfl, rfl⟩⟩
theorem ac_1 : Cond.arrayClass .boolean ∈ mtb := mtb_in (tb_5 (List.mem_of_getElem? (i := 190) rfl)) rfl
theorem fp_M_25 : mFp "PacketFieldModel" 25 10 9 := ⟨_, _, _, mcl_10, by decide, mtb_in (tb_4 (List.mem_of_getElem? (i := 195) rfl)) rfl, Or.inr ⟨rfl, rfl⟩⟩
theorem fp_M_29 : mFp "PacketFieldModel" 29 10 10 := ⟨_, _, _, mcl_10, by decide, mtb_in (tb_4 (List.mem_of_getElem? (i := 196) rfl)) rfl, Or.inr ⟨rfl, rfl⟩⟩
theorem fp_M_32 : mFp "PacketFieldModel" 32 10 11 := ⟨_, _, _, mcl_10, by decide, mtb_in (tb_4 (List.mem_of_getElem? (i := 197) rfl)) rfl, Or.inr ⟨rfl, rfl⟩⟩
theorem fp_M_35 : mFp "PacketFieldModel" 35 10 12 := ⟨_, _, _, mcl_10, by decide, mtb_in (tb_4 (List.mem_of_getElem? (i := 198) rfl)) rfl, Or.inr ⟨rfl, rfl⟩⟩
theorem fp_M_38 : mFp "PacketFieldModel" 38 10 13 := ⟨_, _, _, mcl_10, by decide, mtb_in (tb_4 (List.mem_of_getElem? (i := 199) rfl)) rfl, Or.inr ⟨rfl, rfl⟩⟩
theorem fp_M_41 : mFp "PacketFieldModel" 41 10 14 := ⟨_, _, _, mcl_10, by decide, mtb_in (tb_4 (List.mem_of_getElem? (i := 200) rfl)) rfl, Or.inr ⟨rfl, rfl⟩⟩
theorem fp_M_44 : mFp "PacketFieldModel" 44 10 16 := ⟨_, _, _, mcl_10, by decide, mtb_in (tb_4 (List.mem_of_getElem? (i := 202) rfl)) rfl, Or.inr ⟨rfl, rfl⟩⟩
theorem fp_M_47 : mFp "PacketFieldModel" 47 10 17 := ⟨_, _, _, mcl_10, by decide, mtb_in (tb_4 (List.mem_of_getElem? (i := 203) rfl)) rfl, Or.inr ⟨rfl, rfl⟩⟩
theorem fp_M_50 : mFp "PacketFieldModel" 50 10 18 := ⟨_, _, _, mcl_10, by decide, mtb_in (tb_4 (List.mem_of_getElem? (i := 204) rfl)) rfl, Or.inr ⟨rfl, rfl⟩⟩
theorem fp_M_53 : mFp "PacketFieldModel" 53 10 19 := ⟨_, _, _, mcl_10, by decide, mtb_in (tb_4 (List.mem_of_getElem? (i := 205) rfl)) rfl, Or.inr ⟨rfl, rfl⟩⟩
theorem fp_M_56 : mFp "PacketFieldModel" 56 10 20 := ⟨_, _, _, mcl_10, by decide, mtb_in (tb_4 (List.mem_of_getElem? (i := 206) rfl)) rfl, Or.inr ⟨rfl, rfl⟩⟩
theorem fp_M_59 : mFp "PacketFieldModel" 59 10 21 := ⟨_, _, _, mcl_10, by decide, mtb_in (tb_4 (List.mem_of_getElem? (i := 207) rfl)) rfl, Or.inr ⟨rfl, rfl⟩⟩
theorem fp_M_62 : mFp "PacketFieldModel" 62 10 22 := ⟨_, _, _, mcl_10, by decide, mtb_in (tb_4 (List.mem_of_getElem? (i := 208) rfl)) rfl, Or.inr ⟨rfl, rfl⟩⟩
theorem fp_M_65 : mFp "PacketFieldModel" 65 10 23 := ⟨_, _, _, mcl_10, by decide, mtb_in (tb_4 (List.mem_of_getElem? (i := 209) rfl)) rfl, Or.inr ⟨rfl, rfl⟩⟩
theorem fp_M_68 : mFp "PacketFieldModel" 68 10 24 := ⟨_, _, _, mcl_10, by decide, mtb_in (tb_4 (List.mem_of_getElem? (i := 210) rfl)) rfl, Or.inr ⟨rfl, rfl⟩⟩
theorem fp_M_71 : mFp "PacketFieldModel" 71 10 25 := ⟨_, _, _, mcl_10, by decide, mtb_in (tb_4 (List.mem_of_getElem? (i := 211) rfl)) rfl, Or.inr ⟨rfl, rfl⟩⟩
theorem fp_M_74 : mFp "PacketFieldModel" 74 10 26 := ⟨_, _, _, mcl_10, by decide, mtb_in (tb_4 (List.mem_of_getElem? (i := 212) rfl)) rfl, Or.inr ⟨rfl, rfl⟩⟩
theorem fp_M_77 : mFp "PacketFieldModel" 77 10 27 := ⟨_, _, _, mcl_10, by decide, mtb_in (tb_4 (List.mem_of_getElem? (i := 213) rfl)) rfl, Or.inr ⟨rfl, rfl⟩⟩
theorem fp_M_80 : mFp "PacketFieldModel" 80 10 28 := ⟨_, _, _, mcl_10, by decide, mtb_in (tb_4 (List.mem_of_getElem? (i := 214) rfl)) rfl, Or.inr ⟨rfl, rfl⟩⟩
theorem fp_M_83 : mFp "PacketFieldModel" 83 10 29 := ⟨_, _, _, mcl_10, by decide, mtb_in (tb_4 (List.mem_of_getElem? (i := 215) rfl)) rfl, Or.inr ⟨rfl, rfl⟩⟩
theorem fp_M_86 : mFp "PacketFieldModel" 86 10 30 := ⟨_, _, _, mcl_10, by decide, mtb_in (tb_4 (List.mem_of_getElem? (i := 216) rfl)) rfl, Or.inr ⟨rfl, rfl⟩⟩
theorem fp_M_89 : mFp "PacketFieldModel" 89 10 31 := ⟨_, _, _, mcl_10, by decide, mtb_in (tb_4 (List.mem_of_getElem? (i := 217) rfl)) rfl, Or.inr ⟨rfl, rfl⟩⟩
theorem fp_M_92 : mFp "PacketFieldModel" 92 10 32 := ⟨_, _, _, mcl_10, by decide, mtb_in (tb_4 (List.mem_of_getElem? (i := 218) rfl)) rfl, Or.inr ⟨rfl, rfl⟩⟩
theorem fp_M_95 : mFp "PacketFieldModel" 95 10 33 := ⟨_, _, _, mcl_10, by decide, mtb_in (tb_4 (List.mem_of_getElem? (i := 219) rfl)) rfl, Or.inr ⟨rfl, rfl⟩⟩
theorem fp_M_98 : mFp "PacketFieldModel" 98 10 35 := ⟨_, _, _, mcl_10, by decide, mtb_in (tb_4 (List.mem_of_getElem? (i := 221) rfl)) rfl, Or.inr ⟨rfl, rfl⟩⟩
theorem fp_M_101 : mFp "PacketFieldModel" 101 10 36 := ⟨_, _, _, mcl_10, by decide, mtb_in (tb_4 (List.mem_of_getElem? (i := 222) rfl)) rfl, Or.inr ⟨rfl, rfl⟩⟩
theorem fp_M_104 : mFp "PacketFieldModel" 104 10 46 := ⟨_, _, _, mcl_10, by decide, mtb_in (tb_4 (List.mem_of_getElem? (i := 232) rfl)) rfl, Or.inr ⟨rfl, rfl⟩⟩
theorem fp_M_107 : mFp "PacketFieldModel" 107 10 47 := ⟨_, _, _, mcl_10, by decide, mtb_in (tb_4 (List.mem_of_getElem? (i := 233) rfl)) rfl, Or.inr ⟨rfl, rfl⟩⟩
theorem fp_M_110 : mFp "PacketFieldModel" 110 10 49 := ⟨_, _, _, mcl_10, by decide, mtb_in (tb_4 (List.mem_of_getElem? (i := 235) rfl)) rfl, Or.inr ⟨rfl, rfl⟩⟩
theorem fp_M_113 : mFp "PacketFieldModel" 113 10 50 := ⟨_, _, _, mcl_10, by decide, mtb_in (tb_4 (List.mem_of_getElem? (i := 236) rfl)) rfl, Or.inr ⟨rfl, rfl⟩⟩
theorem fp_M_116 : mFp "PacketFieldModel" 116 10 51 := ⟨_, _, _, mcl_10, by decide, mtb_in (tb_4 (List.mem_of_getElem? (i := 237) rfl)) rfl, Or.inr ⟨rfl, rfl⟩⟩
theorem fp_M_119 : mFp "PacketFieldModel" 119 10 52 := ⟨_, _, _, mcl_10, by decide, mtb_in (tb_4 (List.mem_of_getElem? (i := 238) rfl)) rfl, Or.inr ⟨rfl, rfl⟩⟩
theorem fp_M_122 : mFp "PacketFieldModel" 122 10 53 := ⟨_, _, _, mcl_10, by decide, mtb_in (tb_4 (List.mem_of_getElem? (i := 239) rfl)) rfl, Or.inr ⟨rfl, rfl⟩⟩
theorem fp_M_125 : mFp "PacketFieldModel" 125 10 54 := ⟨_, _, _, mcl_10, by decide, mtb_in (tb_5 (List.mem_of_getElem? (i := 0) rfl)) rfl, Or.inr ⟨rfl, rfl⟩⟩
theorem fp_M_128 : mFp "PacketFieldModel" 128 10 55 := ⟨_, _, _, mcl_10, by decide, mtb_in (tb_5 (List.mem_of_getElem? (i := 1) rfl)) rfl, Or.inr ⟨rfl, rfl⟩⟩
theorem fp_M_131 : mFp "PacketFieldModel" 131 10 56 := ⟨_, _, _, mcl_10, by decide, mtb_in (tb_5 (List.mem_of_getElem? (i := 2) rfl)) rfl, Or.inr ⟨rfl, rfl⟩⟩
theorem fp_M_134 : mFp "PacketFieldModel" 134 10 57 := ⟨_, _, _, mcl_10, by decide, mtb_in (tb_5 (List.mem_of_getElem? (i := 3) rfl)) rfl, Or.inr ⟨rfl, rfl⟩⟩
theorem fp_M_137 : mFp "PacketFieldModel" 137 10 58 := ⟨_, _, _, mcl_10, by decide, mtb_in (tb_5 (List.mem_of_getElem? (i := 4) rfl)) rfl, Or.inr ⟨rfl, rfl⟩⟩
theorem fp_M_140 : mFp "PacketFieldModel" 140 10 59 := ⟨_, _, _, mcl_10, by decide, mtb_in (tb_5 (List.mem_of_getElem? (i := 5) rfl)) rfl, Or.inr ⟨rfl, rfl⟩⟩
theorem fp_M_143 : mFp "PacketFieldModel" 143 10 60 := ⟨_, _, _, mcl_10, by decide, mtb_in (tb_5 (List.mem_of_getElem? (i := 6) rfl)) rfl, Or.inr ⟨rfl, rfl⟩⟩
theorem fp_M_146 : mFp "PacketFieldModel" 146 10 61 := ⟨_, _, _, mcl_10, by decide, mtb_in (tb_5 (List.mem_of_getElem? (i := 7) rfl)) rfl, Or.inr ⟨rfl, rfl⟩⟩
theorem fp_M_149 : mFp "PacketFieldModel" 149 10 62 := ⟨_, _, _, mcl_10, by decide, mtb_in (tb_5 (List.mem_of_getElem? (i := 8) rfl)) rfl, Or.inr ⟨rfl, rfl⟩⟩
theorem fp_M_152 : mFp "PacketFieldModel" 152 10 63 := ⟨_, _, _, mcl_10, by decide, mtb_in (tb_5 (List.mem_of_getElem? (i := 9) rfl)) rfl, Or.inr ⟨rfl, rfl⟩⟩
theorem fp_M_155 : mFp "PacketFieldModel" 155 10 64 := ⟨_, _, _, mcl_10, by decide, mtb_in (tb_5 (List.mem_of_getElem? (i := 10) rfl)) rfl, Or.inr ⟨rfl, rfl⟩⟩
theorem fp_M_158 : mFp "PacketFieldModel" 158 10 65 := ⟨_, _, _, mcl_10, by decide, mtb_in (tb_5 (List.mem_of_getElem? (i := 11) rfl)) rfl, Or.inr ⟨rfl, rfl⟩⟩
theorem fp_M_161 : mFp "PacketFieldModel" 161 10 66 := ⟨_, _, _, mcl_10, by decide, mtb_in (tb_5 (List.mem_of_getElem? (i := 12) rfl)) rfl, Or.inr ⟨rfl, rfl⟩⟩
theorem fp_M_164 : mFp "PacketFieldModel" 164 10 67 := ⟨_, _, _, mcl_10, by decide, mtb_in (tb_5 (List.mem_of_getElem? (i := 13) rfl)) rfl, Or.inr ⟨rfl, rfl⟩⟩
theorem fp_M_167 : mFp "PacketFieldModel" 167 10 68 := ⟨_, _, _, mcl_10, by decide, mtb_in (tb_5 (List.mem_of_getElem? (i := 14) rfl)) rfl, Or.inr ⟨rfl, rfl⟩⟩
theorem fp_M_170 : mFp "PacketFieldModel" 170 10 69 := ⟨_, _, _, mcl_10, by decide, mtb_in (tb_5 (List.mem_of_getElem? (i := 15) rfl)) rfl, Or.inr ⟨rfl, rfl⟩⟩
theorem fp_M_173 : mFp "PacketFieldModel" 173 10 70 := ⟨_, _, _, mcl_10, by decide, mtb_in (tb_5 (List.mem_of_getElem? (i := 16) rfl)) rfl, Or.inr ⟨rfl, rfl⟩⟩
theorem fp_M_176 : mFp "PacketFieldModel" 176 10 71 := ⟨_, _, _, mcl_10, by decide, mtb_in (tb_5 (List.mem_of_getElem? (i := 17) rfl)) rfl, Or.inr ⟨rfl, rfl⟩⟩
theorem fp_M_179 : mFp "PacketFieldModel" 179 10 72 := ⟨_, _, _, mcl_10, by decide, mtb_in (tb_5 (List.mem_of_getElem? (i := 18) rfl)) rfl, Or.inr ⟨rfl, rfl⟩⟩
theorem fp_M_182 : mFp "PacketFieldModel" 182 10 73 := ⟨_, _, _, mcl_10, by decide, mtb_in (tb_5 (List.mem_of_getElem? (i := 19) rfl)) rfl, Or.inr ⟨rfl, rfl⟩⟩
theorem fp_M_185 : mFp "PacketFieldModel" 185 10 74 := ⟨_, _, _, mcl_10, by decide, mtb_in (tb_5 (List.mem_of_getElem? (i := 20) rfl)) rfl, Or.inr ⟨rfl, rfl⟩⟩
theorem fp_M_188 : mFp "PacketFieldModel" 188 10 75 := ⟨_, _, _, mcl_10, by decide, mtb_in (tb_5 (List.mem_of_getElem? (i := 21) rfl)) rfl, Or.inr ⟨rfl, rfl⟩⟩
theorem fp_M_191 : mFp "PacketFieldModel" 191 10 76 := ⟨_, _, _, mcl_10, by decide, mtb_in (tb_5 (List.mem_of_getElem? (i := 22) rfl)) rfl, Or.inr ⟨rfl, rfl⟩⟩
theorem fp_M_194 : mFp "PacketFieldModel" 194 10 78 := ⟨_, _, _, mcl_10, by decide, mtb_in (tb_5 (List.mem_of_getElem? (i := 24) rfl)) rfl, Or.inr ⟨rfl, rfl⟩⟩
theorem fp_M_197 : mFp "PacketFieldModel" 197 10 79 := ⟨_, _, _, mcl_10, by decide, mtb_in (tb_5 (List.mem_of_getElem? (i := 25) rfl)) rfl, Or.inr ⟨rfl, rfl⟩⟩
theorem fp_M_200 : mFp "PacketFieldModel" 200 10 80 := ⟨_, _, _, mcl_10, by decide, mtb_in (tb_5 (List.mem_of_getElem? (i := 26) rfl)) rfl, Or.inr ⟨rfl, rfl⟩⟩
theorem fl_M_44 : mFd "PacketFieldModel" 44 10 16 := ⟨_, _, _, mcl_10, by decide, mtb_in (tb_4 (List.mem_of_getElem? (i := 202) rfl)) rfl⟩
theorem fl_M_113 : mFd "PacketFieldModel" 113 10 50 := ⟨_, _, _, mcl_10, by decide, mtb_in (tb_4 (List.mem_of_getElem? (i := 236) rfl)) rfl⟩
theorem fl_M_116 : mFd "PacketFieldModel" 116 10 51 := ⟨_, _, _, mcl_10, by decide, mtb_in (tb_4 (List.mem_of_getElem? (i := 237) rfl)) rfl⟩
theorem fl_M_47 : mFd "PacketFieldModel" 47 10 17 := ⟨_, _, _, mcl_10, by decide, mtb_in (tb_4 (List.mem_of_getElem? (i := 203) rfl)) rfl⟩
theorem fl_M_211 : mFd "PacketFieldModel" 211 10 1 := ⟨_, _, _, mcl_10, by decide, mtb_in (tb_4 (List.mem_of_getElem? (i := 187) rfl)) rfl⟩
theorem cd_M_lay : mCd mi_M_lay 1 := ⟨mtb_in (tb_5 (List.mem_of_getElem? (i := 198) rfl)) rfl, mtb_in (tb_1 (List.mem_of_getElem? (i := 12) rfl)) rfl, by decide, by decide, by decide, by decide +kernel⟩
theorem ml_M_215 : Cond.methodLink "PacketFieldModel" 215 mi_M_lay.1 ∈ mtb := mtb_in (tb_5 (List.mem_of_getElem? (i := 195) rfl)) rfl
theorem im_M_lay : Cond.instanceMethod mi_M_lay.1 ∈ mtb := mtb_in (tb_5 (List.mem_of_getElem? (i := 197) rfl)) rfl
theorem se_M_lay : Cond.selects mi_M_lay.1.cls mi_M_lay.1 mi_M_lay.1 ∈ mtb := mtb_in (List.mem_append_left _ (List.mem_of_getElem? (i := 23) (by decide +kernel))) rfl
theorem fl_M_7 : mFd "PacketFieldModel" 7 10 0 := ⟨_, _, _, mcl_10, by decide, mtb_in (tb_4 (List.mem_of_getElem? (i := 186) rfl)) rfl⟩
theorem fp_M_211 : mFp "PacketFieldModel" 211 10 1 := ⟨_, _, _, mcl_10, by decide, mtb_in (tb_4 (List.mem_of_getElem? (i := 187) rfl)) rfl, Or.inl rfl⟩
theorem cd_M_in : mCd mi_M_in 3 := ⟨mtb_in (tb_5 (List.mem_of_getElem? (i := 205) rfl)) rfl, mtb_in (tb_1 (List.mem_of_getElem? (i := 12) rfl)) rfl, by decide, by decide, by decide, by decide +kernel⟩
theorem ml_M_203 : Cond.methodLink "PacketFieldModel" 203 mi_M_in.1 ∈ mtb := mtb_in (tb_5 (List.mem_of_getElem? (i := 203) rfl)) rfl
theorem sa_M_in : Cond.static mi_M_in.1 ∈ mtb := mtb_in (tb_5 (List.mem_of_getElem? (i := 204) rfl)) rfl
theorem fl_M_219 : mFd "PacketFieldModel" 219 10 3 := ⟨_, _, _, mcl_10, by decide, mtb_in (tb_4 (List.mem_of_getElem? (i := 189) rfl)) rfl⟩
theorem fl_M_13 : mFd "PacketFieldModel" 13 10 2 := ⟨_, _, _, mcl_10, by decide, mtb_in (tb_4 (List.mem_of_getElem? (i := 188) rfl)) rfl⟩
theorem fp_M_224 : mFp "PacketFieldModel" 224 10 5 := ⟨_, _, _, mcl_10, by decide, mtb_in (tb_4 (List.mem_of_getElem? (i := 191) rfl)) rfl, Or.inl rfl⟩
theorem cd_M_makeFlag : mCd mi_M_makeFlag 0 := ⟨mtb_in (tb_5 (List.mem_of_getElem? (i := 217) rfl)) rfl, mtb_in (tb_1 (List.mem_of_getElem? (i := 12) rfl)) rfl, by decide, by decide, by decide, by decide +kernel⟩
theorem ml_M_240 : Cond.methodLink "PacketFieldModel" 240 mi_M_makeFlag.1 ∈ mtb := mtb_in (tb_5 (List.mem_of_getElem? (i := 214) rfl)) rfl
theorem im_M_makeFlag : Cond.instanceMethod mi_M_makeFlag.1 ∈ mtb := mtb_in (tb_5 (List.mem_of_getElem? (i := 216) rfl)) rfl
theorem se_M_makeFlag : Cond.selects mi_M_makeFlag.1.cls mi_M_makeFlag.1 mi_M_makeFlag.1 ∈ mtb := mtb_in (List.mem_append_left _ (List.mem_of_getElem? (i := 24) (by decide +kernel))) rfl
theorem cd_M_makeFrame : mCd mi_M_makeFrame 3 := ⟨mtb_in (tb_5 (List.mem_of_getElem? (i := 221) rfl)) rfl, mtb_in (tb_1 (List.mem_of_getElem? (i := 12) rfl)) rfl, by decide, by decide, by decide, by decide +kernel⟩
theorem ml_M_243 : Cond.methodLink "PacketFieldModel" 243 mi_M_makeFrame.1 ∈ mtb := mtb_in (tb_5 (List.mem_of_getElem? (i := 218) rfl)) rfl
theorem im_M_makeFrame : Cond.instanceMethod mi_M_makeFrame.1 ∈ mtb := mtb_in (tb_5 (List.mem_of_getElem? (i := 220) rfl)) rfl
theorem se_M_makeFrame : Cond.selects mi_M_makeFrame.1.cls mi_M_makeFrame.1 mi_M_makeFrame.1 ∈ mtb := mtb_in (List.mem_append_left _ (List.mem_of_getElem? (i := 25) (by decide +kernel))) rfl
theorem fl_M_224 : mFd "PacketFieldModel" 224 10 5 := ⟨_, _, _, mcl_10, by decide, mtb_in (tb_4 (List.mem_of_getElem? (i := 191) rfl)) rfl⟩
theorem fl_M_16 : mFd "PacketFieldModel" 16 10 4 := ⟨_, _, _, mcl_10, by decide, mtb_in (tb_4 (List.mem_of_getElem? (i := 190) rfl)) rfl⟩
theorem fp_M_219 : mFp "PacketFieldModel" 219 10 3 := ⟨_, _, _, mcl_10, by decide, mtb_in (tb_4 (List.mem_of_getElem? (i := 189) rfl)) rfl, Or.inl rfl⟩
theorem fp_M_227 : mFp "PacketFieldModel" 227 10 6 := ⟨_, _, _, mcl_10, by decide, mtb_in (tb_4 (List.mem_of_getElem? (i := 192) rfl)) rfl, Or.inl rfl⟩
theorem cd_M_makeByte : mCd mi_M_makeByte 1 := ⟨mtb_in (tb_5 (List.mem_of_getElem? (i := 225) rfl)) rfl, mtb_in (tb_1 (List.mem_of_getElem? (i := 12) rfl)) rfl, by decide, by decide, by decide, by decide +kernel⟩
theorem ml_M_233 : Cond.methodLink "PacketFieldModel" 233 mi_M_makeByte.1 ∈ mtb := mtb_in (tb_5 (List.mem_of_getElem? (i := 222) rfl)) rfl
theorem im_M_makeByte : Cond.instanceMethod mi_M_makeByte.1 ∈ mtb := mtb_in (tb_5 (List.mem_of_getElem? (i := 224) rfl)) rfl
theorem se_M_makeByte : Cond.selects mi_M_makeByte.1.cls mi_M_makeByte.1 mi_M_makeByte.1 ∈ mtb := mtb_in (List.mem_append_left _ (List.mem_of_getElem? (i := 26) (by decide +kernel))) rfl
theorem cd_M_checkOf : mCd mi_M_checkOf 3 := ⟨mtb_in (tb_5 (List.mem_of_getElem? (i := 232) rfl)) rfl, mtb_in (tb_1 (List.mem_of_getElem? (i := 12) rfl)) rfl, by decide, by decide, by decide, by decide +kernel⟩
theorem ml_M_236 : Cond.methodLink "PacketFieldModel" 236 mi_M_checkOf.1 ∈ mtb := mtb_in (tb_5 (List.mem_of_getElem? (i := 230) rfl)) rfl
theorem sa_M_checkOf : Cond.static mi_M_checkOf.1 ∈ mtb := mtb_in (tb_5 (List.mem_of_getElem? (i := 231) rfl)) rfl
theorem cd_M_makeBit : mCd mi_M_makeBit 1 := ⟨mtb_in (tb_5 (List.mem_of_getElem? (i := 229) rfl)) rfl, mtb_in (tb_1 (List.mem_of_getElem? (i := 12) rfl)) rfl, by decide, by decide, by decide, by decide +kernel⟩
theorem ml_M_230 : Cond.methodLink "PacketFieldModel" 230 mi_M_makeBit.1 ∈ mtb := mtb_in (tb_5 (List.mem_of_getElem? (i := 226) rfl)) rfl
theorem im_M_makeBit : Cond.instanceMethod mi_M_makeBit.1 ∈ mtb := mtb_in (tb_5 (List.mem_of_getElem? (i := 228) rfl)) rfl
theorem se_M_makeBit : Cond.selects mi_M_makeBit.1.cls mi_M_makeBit.1 mi_M_makeBit.1 ∈ mtb := mtb_in (List.mem_append_left _ (List.mem_of_getElem? (i := 27) (by decide +kernel))) rfl
theorem fl_M_227 : mFd "PacketFieldModel" 227 10 6 := ⟨_, _, _, mcl_10, by decide, mtb_in (tb_4 (List.mem_of_getElem? (i := 192) rfl)) rfl⟩
theorem ct_M_222 : Cond.constant "PacketFieldModel" 222 (65535 : Int32) ∈ mtb := mtb_in (tb_5 (List.mem_of_getElem? (i := 233) rfl)) rfl
theorem ct_M_223 : Cond.constant "PacketFieldModel" 223 (33800 : Int32) ∈ mtb := mtb_in (tb_5 (List.mem_of_getElem? (i := 234) rfl)) rfl
theorem fl_M_19 : mFd "PacketFieldModel" 19 10 7 := ⟨_, _, _, mcl_10, by decide, mtb_in (tb_4 (List.mem_of_getElem? (i := 193) rfl)) rfl⟩
theorem fl_M_22 : mFd "PacketFieldModel" 22 10 8 := ⟨_, _, _, mcl_10, by decide, mtb_in (tb_4 (List.mem_of_getElem? (i := 194) rfl)) rfl⟩
theorem fl_M_25 : mFd "PacketFieldModel" 25 10 9 := ⟨_, _, _, mcl_10, by decide, mtb_in (tb_4 (List.mem_of_getElem? (i := 195) rfl)) rfl⟩
theorem fl_M_29 : mFd "PacketFieldModel" 29 10 10 := ⟨_, _, _, mcl_10, by decide, mtb_in (tb_4 (List.mem_of_getElem? (i := 196) rfl)) rfl⟩
theorem cd_M_hear : mCd mi_M_hear 2 := ⟨mtb_in (tb_6 (List.mem_of_getElem? (i := 2) rfl)) rfl, mtb_in (tb_1 (List.mem_of_getElem? (i := 12) rfl)) rfl, by decide, by decide, by decide, by decide +kernel⟩
theorem ml_M_254 : Cond.methodLink "PacketFieldModel" 254 mi_M_hear.1 ∈ mtb := mtb_in (tb_5 (List.mem_of_getElem? (i := 239) rfl)) rfl
theorem im_M_hear : Cond.instanceMethod mi_M_hear.1 ∈ mtb := mtb_in (tb_6 (List.mem_of_getElem? (i := 1) rfl)) rfl
theorem se_M_hear : Cond.selects mi_M_hear.1.cls mi_M_hear.1 mi_M_hear.1 ∈ mtb := mtb_in (List.mem_append_left _ (List.mem_of_getElem? (i := 28) (by decide +kernel))) rfl
theorem fl_M_35 : mFd "PacketFieldModel" 35 10 12 := ⟨_, _, _, mcl_10, by decide, mtb_in (tb_4 (List.mem_of_getElem? (i := 198) rfl)) rfl⟩
theorem fl_M_38 : mFd "PacketFieldModel" 38 10 13 := ⟨_, _, _, mcl_10, by decide, mtb_in (tb_4 (List.mem_of_getElem? (i := 199) rfl)) rfl⟩
theorem cd_M_comes : mCd mi_M_comes 2 := ⟨mtb_in (tb_6 (List.mem_of_getElem? (i := 6) rfl)) rfl, mtb_in (tb_1 (List.mem_of_getElem? (i := 12) rfl)) rfl, by decide, by decide, by decide, by decide +kernel⟩
theorem ml_M_247 : Cond.methodLink "PacketFieldModel" 247 mi_M_comes.1 ∈ mtb := mtb_in (tb_6 (List.mem_of_getElem? (i := 3) rfl)) rfl
theorem im_M_comes : Cond.instanceMethod mi_M_comes.1 ∈ mtb := mtb_in (tb_6 (List.mem_of_getElem? (i := 5) rfl)) rfl
theorem se_M_comes : Cond.selects mi_M_comes.1.cls mi_M_comes.1 mi_M_comes.1 ∈ mtb := mtb_in (List.mem_append_left _ (List.mem_of_getElem? (i := 29) (by decide +kernel))) rfl
theorem cd_M_isFrame : mCd mi_M_isFrame 1 := ⟨mtb_in (tb_6 (List.mem_of_getElem? (i := 10) rfl)) rfl, mtb_in (tb_1 (List.mem_of_getElem? (i := 12) rfl)) rfl, by decide, by decide, by decide, by decide +kernel⟩
theorem ml_M_251 : Cond.methodLink "PacketFieldModel" 251 mi_M_isFrame.1 ∈ mtb := mtb_in (tb_6 (List.mem_of_getElem? (i := 7) rfl)) rfl
theorem im_M_isFrame : Cond.instanceMethod mi_M_isFrame.1 ∈ mtb := mtb_in (tb_6 (List.mem_of_getElem? (i := 9) rfl)) rfl
theorem se_M_isFrame : Cond.selects mi_M_isFrame.1.cls mi_M_isFrame.1 mi_M_isFrame.1 ∈ mtb := mtb_in (List.mem_append_left _ (List.mem_of_getElem? (i := 30) (by decide +kernel))) rfl
theorem fl_M_32 : mFd "PacketFieldModel" 32 10 11 := ⟨_, _, _, mcl_10, by decide, mtb_in (tb_4 (List.mem_of_getElem? (i := 197) rfl)) rfl⟩
theorem fl_M_41 : mFd "PacketFieldModel" 41 10 14 := ⟨_, _, _, mcl_10, by decide, mtb_in (tb_4 (List.mem_of_getElem? (i := 200) rfl)) rfl⟩
theorem cd_M_isLink : mCd mi_M_isLink 2 := ⟨mtb_in (tb_6 (List.mem_of_getElem? (i := 17) rfl)) rfl, mtb_in (tb_1 (List.mem_of_getElem? (i := 12) rfl)) rfl, by decide, by decide, by decide, by decide +kernel⟩
theorem ml_M_258 : Cond.methodLink "PacketFieldModel" 258 mi_M_isLink.1 ∈ mtb := mtb_in (tb_6 (List.mem_of_getElem? (i := 15) rfl)) rfl
theorem sa_M_isLink : Cond.static mi_M_isLink.1 ∈ mtb := mtb_in (tb_6 (List.mem_of_getElem? (i := 16) rfl)) rfl
theorem cd_M_isStation : mCd mi_M_isStation 1 := ⟨mtb_in (tb_6 (List.mem_of_getElem? (i := 20) rfl)) rfl, mtb_in (tb_1 (List.mem_of_getElem? (i := 12) rfl)) rfl, by decide, by decide, by decide, by decide +kernel⟩
theorem ml_M_207 : Cond.methodLink "PacketFieldModel" 207 mi_M_isStation.1 ∈ mtb := mtb_in (tb_6 (List.mem_of_getElem? (i := 18) rfl)) rfl
theorem sa_M_isStation : Cond.static mi_M_isStation.1 ∈ mtb := mtb_in (tb_6 (List.mem_of_getElem? (i := 19) rfl)) rfl
theorem cd_M_may : mCd mi_M_may 2 := ⟨mtb_in (tb_6 (List.mem_of_getElem? (i := 27) rfl)) rfl, mtb_in (tb_1 (List.mem_of_getElem? (i := 12) rfl)) rfl, by decide, by decide, by decide, by decide +kernel⟩
theorem ml_M_261 : Cond.methodLink "PacketFieldModel" 261 mi_M_may.1 ∈ mtb := mtb_in (tb_6 (List.mem_of_getElem? (i := 25) rfl)) rfl
theorem sa_M_may : Cond.static mi_M_may.1 ∈ mtb := mtb_in (tb_6 (List.mem_of_getElem? (i := 26) rfl)) rfl
theorem fl_M_50 : mFd "PacketFieldModel" 50 10 18 := ⟨_, _, _, mcl_10, by decide, mtb_in (tb_4 (List.mem_of_getElem? (i := 204) rfl)) rfl⟩
theorem fp_M_264 : mFp "PacketFieldModel" 264 10 34 := ⟨_, _, _, mcl_10, by decide, mtb_in (tb_4 (List.mem_of_getElem? (i := 220) rfl)) rfl, Or.inl rfl⟩
theorem cd_M_put : mCd mi_M_put 1 := ⟨mtb_in (tb_6 (List.mem_of_getElem? (i := 35) rfl)) rfl, mtb_in (tb_1 (List.mem_of_getElem? (i := 12) rfl)) rfl, by decide, by decide, by decide, by decide +kernel⟩
theorem ml_M_270 : Cond.methodLink "PacketFieldModel" 270 mi_M_put.1 ∈ mtb := mtb_in (tb_6 (List.mem_of_getElem? (i := 32) rfl)) rfl
theorem im_M_put : Cond.instanceMethod mi_M_put.1 ∈ mtb := mtb_in (tb_6 (List.mem_of_getElem? (i := 34) rfl)) rfl
theorem se_M_put : Cond.selects mi_M_put.1.cls mi_M_put.1 mi_M_put.1 ∈ mtb := mtb_in (List.mem_append_left _ (List.mem_of_getElem? (i := 31) (by decide +kernel))) rfl
theorem cd_M_enqueue : mCd mi_M_enqueue 1 := ⟨mtb_in (tb_6 (List.mem_of_getElem? (i := 39) rfl)) rfl, mtb_in (tb_1 (List.mem_of_getElem? (i := 12) rfl)) rfl, by decide, by decide, by decide, by decide +kernel⟩
theorem ml_M_273 : Cond.methodLink "PacketFieldModel" 273 mi_M_enqueue.1 ∈ mtb := mtb_in (tb_6 (List.mem_of_getElem? (i := 36) rfl)) rfl
theorem im_M_enqueue : Cond.instanceMethod mi_M_enqueue.1 ∈ mtb := mtb_in (tb_6 (List.mem_of_getElem? (i := 38) rfl)) rfl
theorem se_M_enqueue : Cond.selects mi_M_enqueue.1.cls mi_M_enqueue.1 mi_M_enqueue.1 ∈ mtb := mtb_in (List.mem_append_left _ (List.mem_of_getElem? (i := 32) (by decide +kernel))) rfl
theorem fl_M_95 : mFd "PacketFieldModel" 95 10 33 := ⟨_, _, _, mcl_10, by decide, mtb_in (tb_4 (List.mem_of_getElem? (i := 219) rfl)) rfl⟩
theorem fl_M_264 : mFd "PacketFieldModel" 264 10 34 := ⟨_, _, _, mcl_10, by decide, mtb_in (tb_4 (List.mem_of_getElem? (i := 220) rfl)) rfl⟩
theorem cd_M_count : mCd mi_M_count 2 := ⟨mtb_in (tb_6 (List.mem_of_getElem? (i := 43) rfl)) rfl, mtb_in (tb_1 (List.mem_of_getElem? (i := 12) rfl)) rfl, by decide, by decide, by decide, by decide +kernel⟩
theorem ml_M_267 : Cond.methodLink "PacketFieldModel" 267 mi_M_count.1 ∈ mtb := mtb_in (tb_6 (List.mem_of_getElem? (i := 40) rfl)) rfl
theorem im_M_count : Cond.instanceMethod mi_M_count.1 ∈ mtb := mtb_in (tb_6 (List.mem_of_getElem? (i := 42) rfl)) rfl
theorem se_M_count : Cond.selects mi_M_count.1.cls mi_M_count.1 mi_M_count.1 ∈ mtb := mtb_in (List.mem_append_left _ (List.mem_of_getElem? (i := 33) (by decide +kernel))) rfl
theorem fl_M_53 : mFd "PacketFieldModel" 53 10 19 := ⟨_, _, _, mcl_10, by decide, mtb_in (tb_4 (List.mem_of_getElem? (i := 205) rfl)) rfl⟩
theorem fl_M_56 : mFd "PacketFieldModel" 56 10 20 := ⟨_, _, _, mcl_10, by decide, mtb_in (tb_4 (List.mem_of_getElem? (i := 206) rfl)) rfl⟩
theorem fl_M_92 : mFd "PacketFieldModel" 92 10 32 := ⟨_, _, _, mcl_10, by decide, mtb_in (tb_4 (List.mem_of_getElem? (i := 218) rfl)) rfl⟩
theorem cd_M_tick : mCd mi_M_tick 0 := ⟨mtb_in (tb_6 (List.mem_of_getElem? (i := 55) rfl)) rfl, mtb_in (tb_1 (List.mem_of_getElem? (i := 12) rfl)) rfl, by decide, by decide, by decide, by decide +kernel⟩
theorem ml_M_320 : Cond.methodLink "PacketFieldModel" 320 mi_M_tick.1 ∈ mtb := mtb_in (tb_6 (List.mem_of_getElem? (i := 52) rfl)) rfl
theorem im_M_tick : Cond.instanceMethod mi_M_tick.1 ∈ mtb := mtb_in (tb_6 (List.mem_of_getElem? (i := 54) rfl)) rfl
theorem se_M_tick : Cond.selects mi_M_tick.1.cls mi_M_tick.1 mi_M_tick.1 ∈ mtb := mtb_in (List.mem_append_left _ (List.mem_of_getElem? (i := 34) (by decide +kernel))) rfl
theorem fl_M_288 : mFd "PacketFieldModel" 288 10 15 := ⟨_, _, _, mcl_10, by decide, mtb_in (tb_4 (List.mem_of_getElem? (i := 201) rfl)) rfl⟩
theorem fp_M_288 : mFp "PacketFieldModel" 288 10 15 := ⟨_, _, _, mcl_10, by decide, mtb_in (tb_4 (List.mem_of_getElem? (i := 201) rfl)) rfl, Or.inl rfl⟩
theorem cd_M_draws : mCd mi_M_draws 1 := ⟨mtb_in (tb_6 (List.mem_of_getElem? (i := 59) rfl)) rfl, mtb_in (tb_1 (List.mem_of_getElem? (i := 12) rfl)) rfl, by decide, by decide, by decide, by decide +kernel⟩
theorem ml_M_298 : Cond.methodLink "PacketFieldModel" 298 mi_M_draws.1 ∈ mtb := mtb_in (tb_6 (List.mem_of_getElem? (i := 56) rfl)) rfl
theorem im_M_draws : Cond.instanceMethod mi_M_draws.1 ∈ mtb := mtb_in (tb_6 (List.mem_of_getElem? (i := 58) rfl)) rfl
theorem se_M_draws : Cond.selects mi_M_draws.1.cls mi_M_draws.1 mi_M_draws.1 ∈ mtb := mtb_in (List.mem_append_left _ (List.mem_of_getElem? (i := 35) (by decide +kernel))) rfl
theorem cd_M_sends : mCd mi_M_sends 1 := ⟨mtb_in (tb_6 (List.mem_of_getElem? (i := 68) rfl)) rfl, mtb_in (tb_1 (List.mem_of_getElem? (i := 12) rfl)) rfl, by decide, by decide, by decide, by decide +kernel⟩
theorem ml_M_301 : Cond.methodLink "PacketFieldModel" 301 mi_M_sends.1 ∈ mtb := mtb_in (tb_6 (List.mem_of_getElem? (i := 65) rfl)) rfl
theorem im_M_sends : Cond.instanceMethod mi_M_sends.1 ∈ mtb := mtb_in (tb_6 (List.mem_of_getElem? (i := 67) rfl)) rfl
theorem se_M_sends : Cond.selects mi_M_sends.1.cls mi_M_sends.1 mi_M_sends.1 ∈ mtb := mtb_in (List.mem_append_left _ (List.mem_of_getElem? (i := 37) (by decide +kernel))) rfl
theorem fl_M_98 : mFd "PacketFieldModel" 98 10 35 := ⟨_, _, _, mcl_10, by decide, mtb_in (tb_4 (List.mem_of_getElem? (i := 221) rfl)) rfl⟩
theorem cd_M_listens : mCd mi_M_listens 1 := ⟨mtb_in (tb_6 (List.mem_of_getElem? (i := 76) rfl)) rfl, mtb_in (tb_1 (List.mem_of_getElem? (i := 12) rfl)) rfl, by decide, by decide, by decide, by decide +kernel⟩
theorem ml_M_304 : Cond.methodLink "PacketFieldModel" 304 mi_M_listens.1 ∈ mtb := mtb_in (tb_6 (List.mem_of_getElem? (i := 73) rfl)) rfl
theorem im_M_listens : Cond.instanceMethod mi_M_listens.1 ∈ mtb := mtb_in (tb_6 (List.mem_of_getElem? (i := 75) rfl)) rfl
theorem se_M_listens : Cond.selects mi_M_listens.1.cls mi_M_listens.1 mi_M_listens.1 ∈ mtb := mtb_in (List.mem_append_left _ (List.mem_of_getElem? (i := 39) (by decide +kernel))) rfl
theorem cd_M_taken : mCd mi_M_taken 1 := ⟨mtb_in (tb_6 (List.mem_of_getElem? (i := 93) rfl)) rfl, mtb_in (tb_1 (List.mem_of_getElem? (i := 12) rfl)) rfl, by decide, by decide, by decide, by decide +kernel⟩
theorem ml_M_307 : Cond.methodLink "PacketFieldModel" 307 mi_M_taken.1 ∈ mtb := mtb_in (tb_6 (List.mem_of_getElem? (i := 90) rfl)) rfl
theorem im_M_taken : Cond.instanceMethod mi_M_taken.1 ∈ mtb := mtb_in (tb_6 (List.mem_of_getElem? (i := 92) rfl)) rfl
theorem se_M_taken : Cond.selects mi_M_taken.1.cls mi_M_taken.1 mi_M_taken.1 ∈ mtb := mtb_in (List.mem_append_left _ (List.mem_of_getElem? (i := 42) (by decide +kernel))) rfl
theorem cd_M_tells : mCd mi_M_tells 1 := ⟨mtb_in (tb_6 (List.mem_of_getElem? (i := 219) rfl)) rfl, mtb_in (tb_1 (List.mem_of_getElem? (i := 12) rfl)) rfl, by decide, by decide, by decide, by decide +kernel⟩
theorem ml_M_313 : Cond.methodLink "PacketFieldModel" 313 mi_M_tells.1 ∈ mtb := mtb_in (tb_6 (List.mem_of_getElem? (i := 216) rfl)) rfl
theorem im_M_tells : Cond.instanceMethod mi_M_tells.1 ∈ mtb := mtb_in (tb_6 (List.mem_of_getElem? (i := 218) rfl)) rfl
theorem se_M_tells : Cond.selects mi_M_tells.1.cls mi_M_tells.1 mi_M_tells.1 ∈ mtb := mtb_in (List.mem_append_left _ (List.mem_of_getElem? (i := 72) (by decide +kernel))) rfl
theorem cd_M_maySay : mCd mi_M_maySay 2 := ⟨mtb_in (tb_6 (List.mem_of_getElem? (i := 223) rfl)) rfl, mtb_in (tb_1 (List.mem_of_getElem? (i := 12) rfl)) rfl, by decide, by decide, by decide, by decide +kernel⟩
theorem ml_M_317 : Cond.methodLink "PacketFieldModel" 317 mi_M_maySay.1 ∈ mtb := mtb_in (tb_6 (List.mem_of_getElem? (i := 220) rfl)) rfl
theorem im_M_maySay : Cond.instanceMethod mi_M_maySay.1 ∈ mtb := mtb_in (tb_6 (List.mem_of_getElem? (i := 222) rfl)) rfl
theorem se_M_maySay : Cond.selects mi_M_maySay.1.cls mi_M_maySay.1 mi_M_maySay.1 ∈ mtb := mtb_in (List.mem_append_left _ (List.mem_of_getElem? (i := 73) (by decide +kernel))) rfl
theorem cd_M_clockGoes : mCd mi_M_clockGoes 2 := ⟨mtb_in (tb_6 (List.mem_of_getElem? (i := 215) rfl)) rfl, mtb_in (tb_1 (List.mem_of_getElem? (i := 12) rfl)) rfl, by decide, by decide, by decide, by decide +kernel⟩
theorem ml_M_310 : Cond.methodLink "PacketFieldModel" 310 mi_M_clockGoes.1 ∈ mtb := mtb_in (tb_6 (List.mem_of_getElem? (i := 212) rfl)) rfl
theorem im_M_clockGoes : Cond.instanceMethod mi_M_clockGoes.1 ∈ mtb := mtb_in (tb_6 (List.mem_of_getElem? (i := 214) rfl)) rfl
theorem se_M_clockGoes : Cond.selects mi_M_clockGoes.1.cls mi_M_clockGoes.1 mi_M_clockGoes.1 ∈ mtb := mtb_in (List.mem_append_left _ (List.mem_of_getElem? (i := 71) (by decide +kernel))) rfl
theorem fl_M_68 : mFd "PacketFieldModel" 68 10 24 := ⟨_, _, _, mcl_10, by decide, mtb_in (tb_4 (List.mem_of_getElem? (i := 210) rfl)) rfl⟩
theorem fl_M_62 : mFd "PacketFieldModel" 62 10 22 := ⟨_, _, _, mcl_10, by decide, mtb_in (tb_4 (List.mem_of_getElem? (i := 208) rfl)) rfl⟩
theorem fl_M_59 : mFd "PacketFieldModel" 59 10 21 := ⟨_, _, _, mcl_10, by decide, mtb_in (tb_4 (List.mem_of_getElem? (i := 207) rfl)) rfl⟩
theorem ct_M_276 : Cond.constant "PacketFieldModel" 276 (1103515245 : Int32) ∈ mtb := mtb_in (tb_6 (List.mem_of_getElem? (i := 60) rfl)) rfl
theorem fl_M_80 : mFd "PacketFieldModel" 80 10 28 := ⟨_, _, _, mcl_10, by decide, mtb_in (tb_4 (List.mem_of_getElem? (i := 214) rfl)) rfl⟩
theorem fl_M_83 : mFd "PacketFieldModel" 83 10 29 := ⟨_, _, _, mcl_10, by decide, mtb_in (tb_4 (List.mem_of_getElem? (i := 215) rfl)) rfl⟩
theorem cd_M_lineIs : mCd mi_M_lineIs 1 := ⟨mtb_in (tb_6 (List.mem_of_getElem? (i := 64) rfl)) rfl, mtb_in (tb_1 (List.mem_of_getElem? (i := 12) rfl)) rfl, by decide, by decide, by decide, by decide +kernel⟩
theorem ml_M_277 : Cond.methodLink "PacketFieldModel" 277 mi_M_lineIs.1 ∈ mtb := mtb_in (tb_6 (List.mem_of_getElem? (i := 61) rfl)) rfl
theorem im_M_lineIs : Cond.instanceMethod mi_M_lineIs.1 ∈ mtb := mtb_in (tb_6 (List.mem_of_getElem? (i := 63) rfl)) rfl
theorem se_M_lineIs : Cond.selects mi_M_lineIs.1.cls mi_M_lineIs.1 mi_M_lineIs.1 ∈ mtb := mtb_in (List.mem_append_left _ (List.mem_of_getElem? (i := 36) (by decide +kernel))) rfl
theorem fl_M_77 : mFd "PacketFieldModel" 77 10 27 := ⟨_, _, _, mcl_10, by decide, mtb_in (tb_4 (List.mem_of_getElem? (i := 213) rfl)) rfl⟩
theorem fl_M_71 : mFd "PacketFieldModel" 71 10 25 := ⟨_, _, _, mcl_10, by decide, mtb_in (tb_4 (List.mem_of_getElem? (i := 211) rfl)) rfl⟩
theorem fl_M_74 : mFd "PacketFieldModel" 74 10 26 := ⟨_, _, _, mcl_10, by decide, mtb_in (tb_4 (List.mem_of_getElem? (i := 212) rfl)) rfl⟩
theorem fl_M_89 : mFd "PacketFieldModel" 89 10 31 := ⟨_, _, _, mcl_10, by decide, mtb_in (tb_4 (List.mem_of_getElem? (i := 217) rfl)) rfl⟩
theorem cd_M_takesFrame : mCd mi_M_takesFrame 1 := ⟨mtb_in (tb_6 (List.mem_of_getElem? (i := 72) rfl)) rfl, mtb_in (tb_1 (List.mem_of_getElem? (i := 12) rfl)) rfl, by decide, by decide, by decide, by decide +kernel⟩
theorem ml_M_280 : Cond.methodLink "PacketFieldModel" 280 mi_M_takesFrame.1 ∈ mtb := mtb_in (tb_6 (List.mem_of_getElem? (i := 69) rfl)) rfl
theorem im_M_takesFrame : Cond.instanceMethod mi_M_takesFrame.1 ∈ mtb := mtb_in (tb_6 (List.mem_of_getElem? (i := 71) rfl)) rfl
theorem se_M_takesFrame : Cond.selects mi_M_takesFrame.1.cls mi_M_takesFrame.1 mi_M_takesFrame.1 ∈ mtb := mtb_in (List.mem_append_left _ (List.mem_of_getElem? (i := 38) (by decide +kernel))) rfl
theorem fl_M_65 : mFd "PacketFieldModel" 65 10 23 := ⟨_, _, _, mcl_10, by decide, mtb_in (tb_4 (List.mem_of_getElem? (i := 209) rfl)) rfl⟩
theorem fl_M_86 : mFd "PacketFieldModel" 86 10 30 := ⟨_, _, _, mcl_10, by decide, mtb_in (tb_4 (List.mem_of_getElem? (i := 216) rfl)) rfl⟩
theorem cd_M_hearNothing : mCd mi_M_hearNothing 1 := ⟨mtb_in (tb_6 (List.mem_of_getElem? (i := 80) rfl)) rfl, mtb_in (tb_1 (List.mem_of_getElem? (i := 12) rfl)) rfl, by decide, by decide, by decide, by decide +kernel⟩
theorem ml_M_285 : Cond.methodLink "PacketFieldModel" 285 mi_M_hearNothing.1 ∈ mtb := mtb_in (tb_6 (List.mem_of_getElem? (i := 77) rfl)) rfl
theorem im_M_hearNothing : Cond.instanceMethod mi_M_hearNothing.1 ∈ mtb := mtb_in (tb_6 (List.mem_of_getElem? (i := 79) rfl)) rfl
theorem se_M_hearNothing : Cond.selects mi_M_hearNothing.1.cls mi_M_hearNothing.1 mi_M_hearNothing.1 ∈ mtb := mtb_in (List.mem_append_left _ (List.mem_of_getElem? (i := 40) (by decide +kernel))) rfl
theorem cd_M_hash : mCd mi_M_hash 2 := ⟨mtb_in (tb_6 (List.mem_of_getElem? (i := 83) rfl)) rfl, mtb_in (tb_1 (List.mem_of_getElem? (i := 12) rfl)) rfl, by decide, by decide, by decide, by decide +kernel⟩
theorem ml_M_291 : Cond.methodLink "PacketFieldModel" 291 mi_M_hash.1 ∈ mtb := mtb_in (tb_6 (List.mem_of_getElem? (i := 81) rfl)) rfl
theorem sa_M_hash : Cond.static mi_M_hash.1 ∈ mtb := mtb_in (tb_6 (List.mem_of_getElem? (i := 82) rfl)) rfl
theorem cd_M_isStray : mCd mi_M_isStray 1 := ⟨mtb_in (tb_6 (List.mem_of_getElem? (i := 89) rfl)) rfl, mtb_in (tb_1 (List.mem_of_getElem? (i := 12) rfl)) rfl, by decide, by decide, by decide, by decide +kernel⟩
theorem ml_M_295 : Cond.methodLink "PacketFieldModel" 295 mi_M_isStray.1 ∈ mtb := mtb_in (tb_6 (List.mem_of_getElem? (i := 86) rfl)) rfl
theorem im_M_isStray : Cond.instanceMethod mi_M_isStray.1 ∈ mtb := mtb_in (tb_6 (List.mem_of_getElem? (i := 88) rfl)) rfl
theorem se_M_isStray : Cond.selects mi_M_isStray.1.cls mi_M_isStray.1 mi_M_isStray.1 ∈ mtb := mtb_in (List.mem_append_left _ (List.mem_of_getElem? (i := 41) (by decide +kernel))) rfl
theorem ct_M_283 : Cond.constant "PacketFieldModel" 283 (1000003 : Int32) ∈ mtb := mtb_in (tb_6 (List.mem_of_getElem? (i := 84) rfl)) rfl
theorem ct_M_284 : Cond.constant "PacketFieldModel" 284 (1540483477 : Int32) ∈ mtb := mtb_in (tb_6 (List.mem_of_getElem? (i := 85) rfl)) rfl
theorem fp_M_347 : mFp "PacketFieldModel" 347 10 37 := ⟨_, _, _, mcl_10, by decide, mtb_in (tb_4 (List.mem_of_getElem? (i := 223) rfl)) rfl, Or.inl rfl⟩
theorem fl_M_347 : mFd "PacketFieldModel" 347 10 37 := ⟨_, _, _, mcl_10, by decide, mtb_in (tb_4 (List.mem_of_getElem? (i := 223) rfl)) rfl⟩
theorem fl_M_101 : mFd "PacketFieldModel" 101 10 36 := ⟨_, _, _, mcl_10, by decide, mtb_in (tb_4 (List.mem_of_getElem? (i := 222) rfl)) rfl⟩
theorem cd_M_isRight : mCd mi_M_isRight 0 := ⟨mtb_in (tb_6 (List.mem_of_getElem? (i := 97) rfl)) rfl, mtb_in (tb_1 (List.mem_of_getElem? (i := 12) rfl)) rfl, by decide, by decide, by decide, by decide +kernel⟩
theorem ml_M_375 : Cond.methodLink "PacketFieldModel" 375 mi_M_isRight.1 ∈ mtb := mtb_in (tb_6 (List.mem_of_getElem? (i := 94) rfl)) rfl
theorem im_M_isRight : Cond.instanceMethod mi_M_isRight.1 ∈ mtb := mtb_in (tb_6 (List.mem_of_getElem? (i := 96) rfl)) rfl
theorem se_M_isRight : Cond.selects mi_M_isRight.1.cls mi_M_isRight.1 mi_M_isRight.1 ∈ mtb := mtb_in (List.mem_append_left _ (List.mem_of_getElem? (i := 43) (by decide +kernel))) rfl
theorem fl_M_344 : mFd "PacketFieldModel" 344 10 40 := ⟨_, _, _, mcl_10, by decide, mtb_in (tb_4 (List.mem_of_getElem? (i := 226) rfl)) rfl⟩
theorem fl_M_107 : mFd "PacketFieldModel" 107 10 47 := ⟨_, _, _, mcl_10, by decide, mtb_in (tb_4 (List.mem_of_getElem? (i := 233) rfl)) rfl⟩
theorem fl_M_104 : mFd "PacketFieldModel" 104 10 46 := ⟨_, _, _, mcl_10, by decide, mtb_in (tb_4 (List.mem_of_getElem? (i := 232) rfl)) rfl⟩
theorem fl_M_334 : mFd "PacketFieldModel" 334 10 38 := ⟨_, _, _, mcl_10, by decide, mtb_in (tb_4 (List.mem_of_getElem? (i := 224) rfl)) rfl⟩
theorem fl_M_337 : mFd "PacketFieldModel" 337 10 39 := ⟨_, _, _, mcl_10, by decide, mtb_in (tb_4 (List.mem_of_getElem? (i := 225) rfl)) rfl⟩
theorem cd_M_learns : mCd mi_M_learns 1 := ⟨mtb_in (tb_6 (List.mem_of_getElem? (i := 123) rfl)) rfl, mtb_in (tb_1 (List.mem_of_getElem? (i := 12) rfl)) rfl, by decide, by decide, by decide, by decide +kernel⟩
theorem ml_M_378 : Cond.methodLink "PacketFieldModel" 378 mi_M_learns.1 ∈ mtb := mtb_in (tb_6 (List.mem_of_getElem? (i := 120) rfl)) rfl
theorem im_M_learns : Cond.instanceMethod mi_M_learns.1 ∈ mtb := mtb_in (tb_6 (List.mem_of_getElem? (i := 122) rfl)) rfl
theorem se_M_learns : Cond.selects mi_M_learns.1.cls mi_M_learns.1 mi_M_learns.1 ∈ mtb := mtb_in (List.mem_append_left _ (List.mem_of_getElem? (i := 48) (by decide +kernel))) rfl
theorem cd_M_answers : mCd mi_M_answers 1 := ⟨mtb_in (tb_6 (List.mem_of_getElem? (i := 131) rfl)) rfl, mtb_in (tb_1 (List.mem_of_getElem? (i := 12) rfl)) rfl, by decide, by decide, by decide, by decide +kernel⟩
theorem ml_M_381 : Cond.methodLink "PacketFieldModel" 381 mi_M_answers.1 ∈ mtb := mtb_in (tb_6 (List.mem_of_getElem? (i := 128) rfl)) rfl
theorem im_M_answers : Cond.instanceMethod mi_M_answers.1 ∈ mtb := mtb_in (tb_6 (List.mem_of_getElem? (i := 130) rfl)) rfl
theorem se_M_answers : Cond.selects mi_M_answers.1.cls mi_M_answers.1 mi_M_answers.1 ∈ mtb := mtb_in (List.mem_append_left _ (List.mem_of_getElem? (i := 50) (by decide +kernel))) rfl
theorem cd_M_hasAddresses : mCd mi_M_hasAddresses 0 := ⟨mtb_in (tb_6 (List.mem_of_getElem? (i := 101) rfl)) rfl, mtb_in (tb_1 (List.mem_of_getElem? (i := 12) rfl)) rfl, by decide, by decide, by decide, by decide +kernel⟩
theorem ml_M_353 : Cond.methodLink "PacketFieldModel" 353 mi_M_hasAddresses.1 ∈ mtb := mtb_in (tb_6 (List.mem_of_getElem? (i := 98) rfl)) rfl
theorem im_M_hasAddresses : Cond.instanceMethod mi_M_hasAddresses.1 ∈ mtb := mtb_in (tb_6 (List.mem_of_getElem? (i := 100) rfl)) rfl
theorem se_M_hasAddresses : Cond.selects mi_M_hasAddresses.1.cls mi_M_hasAddresses.1 mi_M_hasAddresses.1 ∈ mtb := mtb_in (List.mem_append_left _ (List.mem_of_getElem? (i := 44) (by decide +kernel))) rfl
theorem fl_M_350 : mFd "PacketFieldModel" 350 10 43 := ⟨_, _, _, mcl_10, by decide, mtb_in (tb_4 (List.mem_of_getElem? (i := 229) rfl)) rfl⟩
theorem cd_M_hasRoutes : mCd mi_M_hasRoutes 0 := ⟨mtb_in (tb_6 (List.mem_of_getElem? (i := 112) rfl)) rfl, mtb_in (tb_1 (List.mem_of_getElem? (i := 12) rfl)) rfl, by decide, by decide, by decide, by decide +kernel⟩
theorem ml_M_357 : Cond.methodLink "PacketFieldModel" 357 mi_M_hasRoutes.1 ∈ mtb := mtb_in (tb_6 (List.mem_of_getElem? (i := 109) rfl)) rfl
theorem im_M_hasRoutes : Cond.instanceMethod mi_M_hasRoutes.1 ∈ mtb := mtb_in (tb_6 (List.mem_of_getElem? (i := 111) rfl)) rfl
theorem se_M_hasRoutes : Cond.selects mi_M_hasRoutes.1.cls mi_M_hasRoutes.1 mi_M_hasRoutes.1 ∈ mtb := mtb_in (List.mem_append_left _ (List.mem_of_getElem? (i := 46) (by decide +kernel))) rfl
theorem cd_M_areUnlike : mCd mi_M_areUnlike 0 := ⟨mtb_in (tb_6 (List.mem_of_getElem? (i := 116) rfl)) rfl, mtb_in (tb_1 (List.mem_of_getElem? (i := 12) rfl)) rfl, by decide, by decide, by decide, by decide +kernel⟩
theorem ml_M_360 : Cond.methodLink "PacketFieldModel" 360 mi_M_areUnlike.1 ∈ mtb := mtb_in (tb_6 (List.mem_of_getElem? (i := 113) rfl)) rfl
theorem im_M_areUnlike : Cond.instanceMethod mi_M_areUnlike.1 ∈ mtb := mtb_in (tb_6 (List.mem_of_getElem? (i := 115) rfl)) rfl
theorem se_M_areUnlike : Cond.selects mi_M_areUnlike.1.cls mi_M_areUnlike.1 mi_M_areUnlike.1 ∈ mtb := mtb_in (List.mem_append_left _ (List.mem_of_getElem? (i := 47) (by decide +kernel))) rfl
theorem fp_M_363 : mFp "PacketFieldModel" 363 10 45 := ⟨_, _, _, mcl_10, by decide, mtb_in (tb_4 (List.mem_of_getElem? (i := 231) rfl)) rfl, Or.inl rfl⟩
theorem fp_M_366 : mFp "PacketFieldModel" 366 10 41 := ⟨_, _, _, mcl_10, by decide, mtb_in (tb_4 (List.mem_of_getElem? (i := 227) rfl)) rfl, Or.inl rfl⟩
theorem fp_M_369 : mFp "PacketFieldModel" 369 10 42 := ⟨_, _, _, mcl_10, by decide, mtb_in (tb_4 (List.mem_of_getElem? (i := 228) rfl)) rfl, Or.inl rfl⟩
theorem fl_M_366 : mFd "PacketFieldModel" 366 10 41 := ⟨_, _, _, mcl_10, by decide, mtb_in (tb_4 (List.mem_of_getElem? (i := 227) rfl)) rfl⟩
theorem fl_M_340 : mFd "PacketFieldModel" 340 10 44 := ⟨_, _, _, mcl_10, by decide, mtb_in (tb_4 (List.mem_of_getElem? (i := 230) rfl)) rfl⟩
theorem cd_M_isNumbered : mCd mi_M_isNumbered 1 := ⟨mtb_in (tb_6 (List.mem_of_getElem? (i := 119) rfl)) rfl, mtb_in (tb_1 (List.mem_of_getElem? (i := 12) rfl)) rfl, by decide, by decide, by decide, by decide +kernel⟩
theorem ml_M_372 : Cond.methodLink "PacketFieldModel" 372 mi_M_isNumbered.1 ∈ mtb := mtb_in (tb_6 (List.mem_of_getElem? (i := 117) rfl)) rfl
theorem sa_M_isNumbered : Cond.static mi_M_isNumbered.1 ∈ mtb := mtb_in (tb_6 (List.mem_of_getElem? (i := 118) rfl)) rfl
theorem cd_M_addressAt : mCd mi_M_addressAt 1 := ⟨mtb_in (tb_6 (List.mem_of_getElem? (i := 105) rfl)) rfl, mtb_in (tb_1 (List.mem_of_getElem? (i := 12) rfl)) rfl, by decide, by decide, by decide, by decide +kernel⟩
theorem ml_M_331 : Cond.methodLink "PacketFieldModel" 331 mi_M_addressAt.1 ∈ mtb := mtb_in (tb_6 (List.mem_of_getElem? (i := 102) rfl)) rfl
theorem im_M_addressAt : Cond.instanceMethod mi_M_addressAt.1 ∈ mtb := mtb_in (tb_6 (List.mem_of_getElem? (i := 104) rfl)) rfl
theorem se_M_addressAt : Cond.selects mi_M_addressAt.1.cls mi_M_addressAt.1 mi_M_addressAt.1 ∈ mtb := mtb_in (List.mem_append_left _ (List.mem_of_getElem? (i := 45) (by decide +kernel))) rfl
theorem fp_M_334 : mFp "PacketFieldModel" 334 10 38 := ⟨_, _, _, mcl_10, by decide, mtb_in (tb_4 (List.mem_of_getElem? (i := 224) rfl)) rfl, Or.inl rfl⟩
theorem fl_M_328 : mFd "PacketFieldModel" 328 10 48 := ⟨_, _, _, mcl_10, by decide, mtb_in (tb_4 (List.mem_of_getElem? (i := 234) rfl)) rfl⟩
theorem fp_M_337 : mFp "PacketFieldModel" 337 10 39 := ⟨_, _, _, mcl_10, by decide, mtb_in (tb_4 (List.mem_of_getElem? (i := 225) rfl)) rfl, Or.inl rfl⟩
theorem fp_M_340 : mFp "PacketFieldModel" 340 10 44 := ⟨_, _, _, mcl_10, by decide, mtb_in (tb_4 (List.mem_of_getElem? (i := 230) rfl)) rfl, Or.inl rfl⟩
theorem fp_M_344 : mFp "PacketFieldModel" 344 10 40 := ⟨_, _, _, mcl_10, by decide, mtb_in (tb_4 (List.mem_of_getElem? (i := 226) rfl)) rfl, Or.inl rfl⟩
theorem fp_M_350 : mFp "PacketFieldModel" 350 10 43 := ⟨_, _, _, mcl_10, by decide, mtb_in (tb_4 (List.mem_of_getElem? (i := 229) rfl)) rfl, Or.inl rfl⟩
theorem cd_M_letter : mCd mi_M_letter 2 := ⟨mtb_in (tb_6 (List.mem_of_getElem? (i := 108) rfl)) rfl, mtb_in (tb_1 (List.mem_of_getElem? (i := 12) rfl)) rfl, by decide, by decide, by decide, by decide +kernel⟩
theorem ml_M_324 : Cond.methodLink "PacketFieldModel" 324 mi_M_letter.1 ∈ mtb := mtb_in (tb_6 (List.mem_of_getElem? (i := 106) rfl)) rfl
theorem sa_M_letter : Cond.static mi_M_letter.1 ∈ mtb := mtb_in (tb_6 (List.mem_of_getElem? (i := 107) rfl)) rfl
theorem fp_M_328 : mFp "PacketFieldModel" 328 10 48 := ⟨_, _, _, mcl_10, by decide, mtb_in (tb_4 (List.mem_of_getElem? (i := 234) rfl)) rfl, Or.inl rfl⟩
theorem cd_M_learn : mCd mi_M_learn 4 := ⟨mtb_in (tb_6 (List.mem_of_getElem? (i := 127) rfl)) rfl, mtb_in (tb_1 (List.mem_of_getElem? (i := 12) rfl)) rfl, by decide, by decide, by decide, by decide +kernel⟩
theorem ml_M_452 : Cond.methodLink "PacketFieldModel" 452 mi_M_learn.1 ∈ mtb := mtb_in (tb_6 (List.mem_of_getElem? (i := 124) rfl)) rfl
theorem im_M_learn : Cond.instanceMethod mi_M_learn.1 ∈ mtb := mtb_in (tb_6 (List.mem_of_getElem? (i := 126) rfl)) rfl
theorem se_M_learn : Cond.selects mi_M_learn.1.cls mi_M_learn.1 mi_M_learn.1 ∈ mtb := mtb_in (List.mem_append_left _ (List.mem_of_getElem? (i := 49) (by decide +kernel))) rfl
theorem fl_M_185 : mFd "PacketFieldModel" 185 10 74 := ⟨_, _, _, mcl_10, by decide, mtb_in (tb_5 (List.mem_of_getElem? (i := 20) rfl)) rfl⟩
theorem fl_M_188 : mFd "PacketFieldModel" 188 10 75 := ⟨_, _, _, mcl_10, by decide, mtb_in (tb_5 (List.mem_of_getElem? (i := 21) rfl)) rfl⟩
theorem cd_M_comesUp : mCd mi_M_comesUp 2 := ⟨mtb_in (tb_6 (List.mem_of_getElem? (i := 135) rfl)) rfl, mtb_in (tb_1 (List.mem_of_getElem? (i := 12) rfl)) rfl, by decide, by decide, by decide, by decide +kernel⟩
theorem ml_M_404 : Cond.methodLink "PacketFieldModel" 404 mi_M_comesUp.1 ∈ mtb := mtb_in (tb_6 (List.mem_of_getElem? (i := 132) rfl)) rfl
theorem im_M_comesUp : Cond.instanceMethod mi_M_comesUp.1 ∈ mtb := mtb_in (tb_6 (List.mem_of_getElem? (i := 134) rfl)) rfl
theorem se_M_comesUp : Cond.selects mi_M_comesUp.1.cls mi_M_comesUp.1 mi_M_comesUp.1 ∈ mtb := mtb_in (List.mem_append_left _ (List.mem_of_getElem? (i := 51) (by decide +kernel))) rfl
theorem fl_M_369 : mFd "PacketFieldModel" 369 10 42 := ⟨_, _, _, mcl_10, by decide, mtb_in (tb_4 (List.mem_of_getElem? (i := 228) rfl)) rfl⟩
theorem fl_M_119 : mFd "PacketFieldModel" 119 10 52 := ⟨_, _, _, mcl_10, by decide, mtb_in (tb_4 (List.mem_of_getElem? (i := 238) rfl)) rfl⟩
theorem fl_M_110 : mFd "PacketFieldModel" 110 10 49 := ⟨_, _, _, mcl_10, by decide, mtb_in (tb_4 (List.mem_of_getElem? (i := 235) rfl)) rfl⟩
theorem fl_M_131 : mFd "PacketFieldModel" 131 10 56 := ⟨_, _, _, mcl_10, by decide, mtb_in (tb_5 (List.mem_of_getElem? (i := 2) rfl)) rfl⟩
theorem fl_M_134 : mFd "PacketFieldModel" 134 10 57 := ⟨_, _, _, mcl_10, by decide, mtb_in (tb_5 (List.mem_of_getElem? (i := 3) rfl)) rfl⟩
theorem cd_M_goDown : mCd mi_M_goDown 1 := ⟨mtb_in (tb_6 (List.mem_of_getElem? (i := 159) rfl)) rfl, mtb_in (tb_1 (List.mem_of_getElem? (i := 12) rfl)) rfl, by decide, by decide, by decide, by decide +kernel⟩
theorem ml_M_410 : Cond.methodLink "PacketFieldModel" 410 mi_M_goDown.1 ∈ mtb := mtb_in (tb_6 (List.mem_of_getElem? (i := 156) rfl)) rfl
theorem im_M_goDown : Cond.instanceMethod mi_M_goDown.1 ∈ mtb := mtb_in (tb_6 (List.mem_of_getElem? (i := 158) rfl)) rfl
theorem se_M_goDown : Cond.selects mi_M_goDown.1.cls mi_M_goDown.1 mi_M_goDown.1 ∈ mtb := mtb_in (List.mem_append_left _ (List.mem_of_getElem? (i := 57) (by decide +kernel))) rfl
theorem fl_M_363 : mFd "PacketFieldModel" 363 10 45 := ⟨_, _, _, mcl_10, by decide, mtb_in (tb_4 (List.mem_of_getElem? (i := 231) rfl)) rfl⟩
theorem cd_M_numbered : mCd mi_M_numbered 3 := ⟨mtb_in (tb_6 (List.mem_of_getElem? (i := 167) rfl)) rfl, mtb_in (tb_1 (List.mem_of_getElem? (i := 12) rfl)) rfl, by decide, by decide, by decide, by decide +kernel⟩
theorem ml_M_413 : Cond.methodLink "PacketFieldModel" 413 mi_M_numbered.1 ∈ mtb := mtb_in (tb_6 (List.mem_of_getElem? (i := 164) rfl)) rfl
theorem im_M_numbered : Cond.instanceMethod mi_M_numbered.1 ∈ mtb := mtb_in (tb_6 (List.mem_of_getElem? (i := 166) rfl)) rfl
theorem se_M_numbered : Cond.selects mi_M_numbered.1.cls mi_M_numbered.1 mi_M_numbered.1 ∈ mtb := mtb_in (List.mem_append_left _ (List.mem_of_getElem? (i := 59) (by decide +kernel))) rfl
theorem cd_M_answer : mCd mi_M_answer 2 := ⟨mtb_in (tb_6 (List.mem_of_getElem? (i := 139) rfl)) rfl, mtb_in (tb_1 (List.mem_of_getElem? (i := 12) rfl)) rfl, by decide, by decide, by decide, by decide +kernel⟩
theorem ml_M_407 : Cond.methodLink "PacketFieldModel" 407 mi_M_answer.1 ∈ mtb := mtb_in (tb_6 (List.mem_of_getElem? (i := 136) rfl)) rfl
theorem im_M_answer : Cond.instanceMethod mi_M_answer.1 ∈ mtb := mtb_in (tb_6 (List.mem_of_getElem? (i := 138) rfl)) rfl
theorem se_M_answer : Cond.selects mi_M_answer.1.cls mi_M_answer.1 mi_M_answer.1 ∈ mtb := mtb_in (List.mem_append_left _ (List.mem_of_getElem? (i := 52) (by decide +kernel))) rfl
theorem cd_M_say : mCd mi_M_say 4 := ⟨mtb_in (tb_6 (List.mem_of_getElem? (i := 163) rfl)) rfl, mtb_in (tb_1 (List.mem_of_getElem? (i := 12) rfl)) rfl, by decide, by decide, by decide, by decide +kernel⟩
theorem ml_M_391 : Cond.methodLink "PacketFieldModel" 391 mi_M_say.1 ∈ mtb := mtb_in (tb_6 (List.mem_of_getElem? (i := 160) rfl)) rfl
theorem im_M_say : Cond.instanceMethod mi_M_say.1 ∈ mtb := mtb_in (tb_6 (List.mem_of_getElem? (i := 162) rfl)) rfl
theorem se_M_say : Cond.selects mi_M_say.1.cls mi_M_say.1 mi_M_say.1 ∈ mtb := mtb_in (List.mem_append_left _ (List.mem_of_getElem? (i := 58) (by decide +kernel))) rfl
theorem fl_M_149 : mFd "PacketFieldModel" 149 10 62 := ⟨_, _, _, mcl_10, by decide, mtb_in (tb_5 (List.mem_of_getElem? (i := 8) rfl)) rfl⟩
theorem cd_M_clear : mCd mi_M_clear 1 := ⟨mtb_in (tb_6 (List.mem_of_getElem? (i := 151) rfl)) rfl, mtb_in (tb_1 (List.mem_of_getElem? (i := 12) rfl)) rfl, by decide, by decide, by decide, by decide +kernel⟩
theorem ml_M_401 : Cond.methodLink "PacketFieldModel" 401 mi_M_clear.1 ∈ mtb := mtb_in (tb_6 (List.mem_of_getElem? (i := 148) rfl)) rfl
theorem im_M_clear : Cond.instanceMethod mi_M_clear.1 ∈ mtb := mtb_in (tb_6 (List.mem_of_getElem? (i := 150) rfl)) rfl
theorem se_M_clear : Cond.selects mi_M_clear.1.cls mi_M_clear.1 mi_M_clear.1 ∈ mtb := mtb_in (List.mem_append_left _ (List.mem_of_getElem? (i := 55) (by decide +kernel))) rfl
theorem cd_M_begin : mCd mi_M_begin 5 := ⟨mtb_in (tb_6 (List.mem_of_getElem? (i := 143) rfl)) rfl, mtb_in (tb_1 (List.mem_of_getElem? (i := 12) rfl)) rfl, by decide, by decide, by decide, by decide +kernel⟩
theorem ml_M_387 : Cond.methodLink "PacketFieldModel" 387 mi_M_begin.1 ∈ mtb := mtb_in (tb_6 (List.mem_of_getElem? (i := 140) rfl)) rfl
theorem im_M_begin : Cond.instanceMethod mi_M_begin.1 ∈ mtb := mtb_in (tb_6 (List.mem_of_getElem? (i := 142) rfl)) rfl
theorem se_M_begin : Cond.selects mi_M_begin.1.cls mi_M_begin.1 mi_M_begin.1 ∈ mtb := mtb_in (List.mem_append_left _ (List.mem_of_getElem? (i := 53) (by decide +kernel))) rfl
theorem cd_M_address : mCd mi_M_address 2 := ⟨mtb_in (tb_6 (List.mem_of_getElem? (i := 147) rfl)) rfl, mtb_in (tb_1 (List.mem_of_getElem? (i := 12) rfl)) rfl, by decide, by decide, by decide, by decide +kernel⟩
theorem ml_M_384 : Cond.methodLink "PacketFieldModel" 384 mi_M_address.1 ∈ mtb := mtb_in (tb_6 (List.mem_of_getElem? (i := 144) rfl)) rfl
theorem im_M_address : Cond.instanceMethod mi_M_address.1 ∈ mtb := mtb_in (tb_6 (List.mem_of_getElem? (i := 146) rfl)) rfl
theorem se_M_address : Cond.selects mi_M_address.1.cls mi_M_address.1 mi_M_address.1 ∈ mtb := mtb_in (List.mem_append_left _ (List.mem_of_getElem? (i := 54) (by decide +kernel))) rfl
theorem cd_M_reset : mCd mi_M_reset 1 := ⟨mtb_in (tb_6 (List.mem_of_getElem? (i := 155) rfl)) rfl, mtb_in (tb_1 (List.mem_of_getElem? (i := 12) rfl)) rfl, by decide, by decide, by decide, by decide +kernel⟩
theorem ml_M_398 : Cond.methodLink "PacketFieldModel" 398 mi_M_reset.1 ∈ mtb := mtb_in (tb_6 (List.mem_of_getElem? (i := 152) rfl)) rfl
theorem im_M_reset : Cond.instanceMethod mi_M_reset.1 ∈ mtb := mtb_in (tb_6 (List.mem_of_getElem? (i := 154) rfl)) rfl
theorem se_M_reset : Cond.selects mi_M_reset.1.cls mi_M_reset.1 mi_M_reset.1 ∈ mtb := mtb_in (List.mem_append_left _ (List.mem_of_getElem? (i := 56) (by decide +kernel))) rfl
theorem fl_M_161 : mFd "PacketFieldModel" 161 10 66 := ⟨_, _, _, mcl_10, by decide, mtb_in (tb_5 (List.mem_of_getElem? (i := 12) rfl)) rfl⟩
theorem fl_M_122 : mFd "PacketFieldModel" 122 10 53 := ⟨_, _, _, mcl_10, by decide, mtb_in (tb_4 (List.mem_of_getElem? (i := 239) rfl)) rfl⟩
theorem fl_M_125 : mFd "PacketFieldModel" 125 10 54 := ⟨_, _, _, mcl_10, by decide, mtb_in (tb_5 (List.mem_of_getElem? (i := 0) rfl)) rfl⟩
theorem fl_M_128 : mFd "PacketFieldModel" 128 10 55 := ⟨_, _, _, mcl_10, by decide, mtb_in (tb_5 (List.mem_of_getElem? (i := 1) rfl)) rfl⟩
theorem fl_M_137 : mFd "PacketFieldModel" 137 10 58 := ⟨_, _, _, mcl_10, by decide, mtb_in (tb_5 (List.mem_of_getElem? (i := 4) rfl)) rfl⟩
theorem fl_M_140 : mFd "PacketFieldModel" 140 10 59 := ⟨_, _, _, mcl_10, by decide, mtb_in (tb_5 (List.mem_of_getElem? (i := 5) rfl)) rfl⟩
theorem fl_M_143 : mFd "PacketFieldModel" 143 10 60 := ⟨_, _, _, mcl_10, by decide, mtb_in (tb_5 (List.mem_of_getElem? (i := 6) rfl)) rfl⟩
theorem fl_M_155 : mFd "PacketFieldModel" 155 10 64 := ⟨_, _, _, mcl_10, by decide, mtb_in (tb_5 (List.mem_of_getElem? (i := 10) rfl)) rfl⟩
theorem fl_M_182 : mFd "PacketFieldModel" 182 10 73 := ⟨_, _, _, mcl_10, by decide, mtb_in (tb_5 (List.mem_of_getElem? (i := 19) rfl)) rfl⟩
theorem fl_M_170 : mFd "PacketFieldModel" 170 10 69 := ⟨_, _, _, mcl_10, by decide, mtb_in (tb_5 (List.mem_of_getElem? (i := 15) rfl)) rfl⟩
theorem fl_M_176 : mFd "PacketFieldModel" 176 10 71 := ⟨_, _, _, mcl_10, by decide, mtb_in (tb_5 (List.mem_of_getElem? (i := 17) rfl)) rfl⟩
theorem fl_M_179 : mFd "PacketFieldModel" 179 10 72 := ⟨_, _, _, mcl_10, by decide, mtb_in (tb_5 (List.mem_of_getElem? (i := 18) rfl)) rfl⟩
theorem cd_M_told : mCd mi_M_told 3 := ⟨mtb_in (tb_6 (List.mem_of_getElem? (i := 171) rfl)) rfl, mtb_in (tb_1 (List.mem_of_getElem? (i := 12) rfl)) rfl, by decide, by decide, by decide, by decide +kernel⟩
theorem ml_M_420 : Cond.methodLink "PacketFieldModel" 420 mi_M_told.1 ∈ mtb := mtb_in (tb_6 (List.mem_of_getElem? (i := 168) rfl)) rfl
theorem im_M_told : Cond.instanceMethod mi_M_told.1 ∈ mtb := mtb_in (tb_6 (List.mem_of_getElem? (i := 170) rfl)) rfl
theorem se_M_told : Cond.selects mi_M_told.1.cls mi_M_told.1 mi_M_told.1 ∈ mtb := mtb_in (List.mem_append_left _ (List.mem_of_getElem? (i := 60) (by decide +kernel))) rfl
theorem cd_M_supervised : mCd mi_M_supervised 4 := ⟨mtb_in (tb_6 (List.mem_of_getElem? (i := 203) rfl)) rfl, mtb_in (tb_1 (List.mem_of_getElem? (i := 12) rfl)) rfl, by decide, by decide, by decide, by decide +kernel⟩
theorem ml_M_423 : Cond.methodLink "PacketFieldModel" 423 mi_M_supervised.1 ∈ mtb := mtb_in (tb_6 (List.mem_of_getElem? (i := 200) rfl)) rfl
theorem im_M_supervised : Cond.instanceMethod mi_M_supervised.1 ∈ mtb := mtb_in (tb_6 (List.mem_of_getElem? (i := 202) rfl)) rfl
theorem se_M_supervised : Cond.selects mi_M_supervised.1.cls mi_M_supervised.1 mi_M_supervised.1 ∈ mtb := mtb_in (List.mem_append_left _ (List.mem_of_getElem? (i := 68) (by decide +kernel))) rfl
theorem fl_M_173 : mFd "PacketFieldModel" 173 10 70 := ⟨_, _, _, mcl_10, by decide, mtb_in (tb_5 (List.mem_of_getElem? (i := 16) rfl)) rfl⟩
theorem cd_M_isBusy : mCd mi_M_isBusy 1 := ⟨mtb_in (tb_6 (List.mem_of_getElem? (i := 179) rfl)) rfl, mtb_in (tb_1 (List.mem_of_getElem? (i := 12) rfl)) rfl, by decide, by decide, by decide, by decide +kernel⟩
theorem ml_M_395 : Cond.methodLink "PacketFieldModel" 395 mi_M_isBusy.1 ∈ mtb := mtb_in (tb_6 (List.mem_of_getElem? (i := 176) rfl)) rfl
theorem im_M_isBusy : Cond.instanceMethod mi_M_isBusy.1 ∈ mtb := mtb_in (tb_6 (List.mem_of_getElem? (i := 178) rfl)) rfl
theorem se_M_isBusy : Cond.selects mi_M_isBusy.1.cls mi_M_isBusy.1 mi_M_isBusy.1 ∈ mtb := mtb_in (List.mem_append_left _ (List.mem_of_getElem? (i := 62) (by decide +kernel))) rfl
theorem fp_M_437 : mFp "PacketFieldModel" 437 10 77 := ⟨_, _, _, mcl_10, by decide, mtb_in (tb_5 (List.mem_of_getElem? (i := 23) rfl)) rfl, Or.inl rfl⟩
theorem cd_M_sayNumber : mCd mi_M_sayNumber 5 := ⟨mtb_in (tb_6 (List.mem_of_getElem? (i := 175) rfl)) rfl, mtb_in (tb_1 (List.mem_of_getElem? (i := 12) rfl)) rfl, by decide, by decide, by decide, by decide +kernel⟩
theorem ml_M_433 : Cond.methodLink "PacketFieldModel" 433 mi_M_sayNumber.1 ∈ mtb := mtb_in (tb_6 (List.mem_of_getElem? (i := 172) rfl)) rfl
theorem im_M_sayNumber : Cond.instanceMethod mi_M_sayNumber.1 ∈ mtb := mtb_in (tb_6 (List.mem_of_getElem? (i := 174) rfl)) rfl
theorem se_M_sayNumber : Cond.selects mi_M_sayNumber.1.cls mi_M_sayNumber.1 mi_M_sayNumber.1 ∈ mtb := mtb_in (List.mem_append_left _ (List.mem_of_getElem? (i := 61) (by decide +kernel))) rfl
theorem fl_M_191 : mFd "PacketFieldModel" 191 10 76 := ⟨_, _, _, mcl_10, by decide, mtb_in (tb_5 (List.mem_of_getElem? (i := 22) rfl)) rfl⟩
theorem cd_M_packetComes : mCd mi_M_packetComes 1 := ⟨mtb_in (tb_6 (List.mem_of_getElem? (i := 183) rfl)) rfl, mtb_in (tb_1 (List.mem_of_getElem? (i := 12) rfl)) rfl, by decide, by decide, by decide, by decide +kernel⟩
theorem ml_M_440 : Cond.methodLink "PacketFieldModel" 440 mi_M_packetComes.1 ∈ mtb := mtb_in (tb_6 (List.mem_of_getElem? (i := 180) rfl)) rfl
theorem im_M_packetComes : Cond.instanceMethod mi_M_packetComes.1 ∈ mtb := mtb_in (tb_6 (List.mem_of_getElem? (i := 182) rfl)) rfl
theorem se_M_packetComes : Cond.selects mi_M_packetComes.1.cls mi_M_packetComes.1 mi_M_packetComes.1 ∈ mtb := mtb_in (List.mem_append_left _ (List.mem_of_getElem? (i := 63) (by decide +kernel))) rfl
theorem cd_M_ready : mCd mi_M_ready 1 := ⟨mtb_in (tb_6 (List.mem_of_getElem? (i := 199) rfl)) rfl, mtb_in (tb_1 (List.mem_of_getElem? (i := 12) rfl)) rfl, by decide, by decide, by decide, by decide +kernel⟩
theorem ml_M_430 : Cond.methodLink "PacketFieldModel" 430 mi_M_ready.1 ∈ mtb := mtb_in (tb_6 (List.mem_of_getElem? (i := 196) rfl)) rfl
theorem im_M_ready : Cond.instanceMethod mi_M_ready.1 ∈ mtb := mtb_in (tb_6 (List.mem_of_getElem? (i := 198) rfl)) rfl
theorem se_M_ready : Cond.selects mi_M_ready.1.cls mi_M_ready.1 mi_M_ready.1 ∈ mtb := mtb_in (List.mem_append_left _ (List.mem_of_getElem? (i := 67) (by decide +kernel))) rfl
theorem fl_M_158 : mFd "PacketFieldModel" 158 10 65 := ⟨_, _, _, mcl_10, by decide, mtb_in (tb_5 (List.mem_of_getElem? (i := 11) rfl)) rfl⟩
theorem fl_M_437 : mFd "PacketFieldModel" 437 10 77 := ⟨_, _, _, mcl_10, by decide, mtb_in (tb_5 (List.mem_of_getElem? (i := 23) rfl)) rfl⟩
theorem cd_M_keepLetter : mCd mi_M_keepLetter 1 := ⟨mtb_in (tb_6 (List.mem_of_getElem? (i := 187) rfl)) rfl, mtb_in (tb_1 (List.mem_of_getElem? (i := 12) rfl)) rfl, by decide, by decide, by decide, by decide +kernel⟩
theorem ml_M_455 : Cond.methodLink "PacketFieldModel" 455 mi_M_keepLetter.1 ∈ mtb := mtb_in (tb_6 (List.mem_of_getElem? (i := 184) rfl)) rfl
theorem im_M_keepLetter : Cond.instanceMethod mi_M_keepLetter.1 ∈ mtb := mtb_in (tb_6 (List.mem_of_getElem? (i := 186) rfl)) rfl
theorem se_M_keepLetter : Cond.selects mi_M_keepLetter.1.cls mi_M_keepLetter.1 mi_M_keepLetter.1 ∈ mtb := mtb_in (List.mem_append_left _ (List.mem_of_getElem? (i := 64) (by decide +kernel))) rfl
theorem cd_M_bestTo : mCd mi_M_bestTo 2 := ⟨mtb_in (tb_6 (List.mem_of_getElem? (i := 191) rfl)) rfl, mtb_in (tb_1 (List.mem_of_getElem? (i := 12) rfl)) rfl, by decide, by decide, by decide, by decide +kernel⟩
theorem ml_M_449 : Cond.methodLink "PacketFieldModel" 449 mi_M_bestTo.1 ∈ mtb := mtb_in (tb_6 (List.mem_of_getElem? (i := 188) rfl)) rfl
theorem im_M_bestTo : Cond.instanceMethod mi_M_bestTo.1 ∈ mtb := mtb_in (tb_6 (List.mem_of_getElem? (i := 190) rfl)) rfl
theorem se_M_bestTo : Cond.selects mi_M_bestTo.1.cls mi_M_bestTo.1 mi_M_bestTo.1 ∈ mtb := mtb_in (List.mem_append_left _ (List.mem_of_getElem? (i := 65) (by decide +kernel))) rfl
theorem cd_M_called : mCd mi_M_called 2 := ⟨mtb_in (tb_6 (List.mem_of_getElem? (i := 195) rfl)) rfl, mtb_in (tb_1 (List.mem_of_getElem? (i := 12) rfl)) rfl, by decide, by decide, by decide, by decide +kernel⟩
theorem ml_M_458 : Cond.methodLink "PacketFieldModel" 458 mi_M_called.1 ∈ mtb := mtb_in (tb_6 (List.mem_of_getElem? (i := 192) rfl)) rfl
theorem im_M_called : Cond.instanceMethod mi_M_called.1 ∈ mtb := mtb_in (tb_6 (List.mem_of_getElem? (i := 194) rfl)) rfl
theorem se_M_called : Cond.selects mi_M_called.1.cls mi_M_called.1 mi_M_called.1 ∈ mtb := mtb_in (List.mem_append_left _ (List.mem_of_getElem? (i := 66) (by decide +kernel))) rfl
theorem fl_M_167 : mFd "PacketFieldModel" 167 10 68 := ⟨_, _, _, mcl_10, by decide, mtb_in (tb_5 (List.mem_of_getElem? (i := 14) rfl)) rfl⟩
theorem fl_M_164 : mFd "PacketFieldModel" 164 10 67 := ⟨_, _, _, mcl_10, by decide, mtb_in (tb_5 (List.mem_of_getElem? (i := 13) rfl)) rfl⟩
theorem fl_M_194 : mFd "PacketFieldModel" 194 10 78 := ⟨_, _, _, mcl_10, by decide, mtb_in (tb_5 (List.mem_of_getElem? (i := 24) rfl)) rfl⟩
theorem fl_M_197 : mFd "PacketFieldModel" 197 10 79 := ⟨_, _, _, mcl_10, by decide, mtb_in (tb_5 (List.mem_of_getElem? (i := 25) rfl)) rfl⟩
theorem fl_M_146 : mFd "PacketFieldModel" 146 10 61 := ⟨_, _, _, mcl_10, by decide, mtb_in (tb_5 (List.mem_of_getElem? (i := 7) rfl)) rfl⟩
theorem cd_M_again : mCd mi_M_again 2 := ⟨mtb_in (tb_6 (List.mem_of_getElem? (i := 207) rfl)) rfl, mtb_in (tb_1 (List.mem_of_getElem? (i := 12) rfl)) rfl, by decide, by decide, by decide, by decide +kernel⟩
theorem ml_M_427 : Cond.methodLink "PacketFieldModel" 427 mi_M_again.1 ∈ mtb := mtb_in (tb_6 (List.mem_of_getElem? (i := 204) rfl)) rfl
theorem im_M_again : Cond.instanceMethod mi_M_again.1 ∈ mtb := mtb_in (tb_6 (List.mem_of_getElem? (i := 206) rfl)) rfl
theorem se_M_again : Cond.selects mi_M_again.1.cls mi_M_again.1 mi_M_again.1 ∈ mtb := mtb_in (List.mem_append_left _ (List.mem_of_getElem? (i := 69) (by decide +kernel))) rfl
theorem cd_M_sayAgain : mCd mi_M_sayAgain 3 := ⟨mtb_in (tb_6 (List.mem_of_getElem? (i := 211) rfl)) rfl, mtb_in (tb_1 (List.mem_of_getElem? (i := 12) rfl)) rfl, by decide, by decide, by decide, by decide +kernel⟩
theorem ml_M_417 : Cond.methodLink "PacketFieldModel" 417 mi_M_sayAgain.1 ∈ mtb := mtb_in (tb_6 (List.mem_of_getElem? (i := 208) rfl)) rfl
theorem im_M_sayAgain : Cond.instanceMethod mi_M_sayAgain.1 ∈ mtb := mtb_in (tb_6 (List.mem_of_getElem? (i := 210) rfl)) rfl
theorem se_M_sayAgain : Cond.selects mi_M_sayAgain.1.cls mi_M_sayAgain.1 mi_M_sayAgain.1 ∈ mtb := mtb_in (List.mem_append_left _ (List.mem_of_getElem? (i := 70) (by decide +kernel))) rfl
theorem fl_M_152 : mFd "PacketFieldModel" 152 10 63 := ⟨_, _, _, mcl_10, by decide, mtb_in (tb_5 (List.mem_of_getElem? (i := 9) rfl)) rfl⟩
theorem cd_M_dropOut : mCd mi_M_dropOut 2 := ⟨mtb_in (tb_6 (List.mem_of_getElem? (i := 231) rfl)) rfl, mtb_in (tb_1 (List.mem_of_getElem? (i := 12) rfl)) rfl, by decide, by decide, by decide, by decide +kernel⟩
theorem ml_M_446 : Cond.methodLink "PacketFieldModel" 446 mi_M_dropOut.1 ∈ mtb := mtb_in (tb_6 (List.mem_of_getElem? (i := 228) rfl)) rfl
theorem im_M_dropOut : Cond.instanceMethod mi_M_dropOut.1 ∈ mtb := mtb_in (tb_6 (List.mem_of_getElem? (i := 230) rfl)) rfl
theorem se_M_dropOut : Cond.selects mi_M_dropOut.1.cls mi_M_dropOut.1 mi_M_dropOut.1 ∈ mtb := mtb_in (List.mem_append_left _ (List.mem_of_getElem? (i := 75) (by decide +kernel))) rfl
theorem cd_M_dropPacket : mCd mi_M_dropPacket 1 := ⟨mtb_in (tb_6 (List.mem_of_getElem? (i := 227) rfl)) rfl, mtb_in (tb_1 (List.mem_of_getElem? (i := 12) rfl)) rfl, by decide, by decide, by decide, by decide +kernel⟩
theorem ml_M_443 : Cond.methodLink "PacketFieldModel" 443 mi_M_dropPacket.1 ∈ mtb := mtb_in (tb_6 (List.mem_of_getElem? (i := 224) rfl)) rfl
theorem im_M_dropPacket : Cond.instanceMethod mi_M_dropPacket.1 ∈ mtb := mtb_in (tb_6 (List.mem_of_getElem? (i := 226) rfl)) rfl
theorem se_M_dropPacket : Cond.selects mi_M_dropPacket.1.cls mi_M_dropPacket.1 mi_M_dropPacket.1 ∈ mtb := mtb_in (List.mem_append_left _ (List.mem_of_getElem? (i := 74) (by decide +kernel))) rfl
theorem fl_M_200 : mFd "PacketFieldModel" 200 10 80 := ⟨_, _, _, mcl_10, by decide, mtb_in (tb_5 (List.mem_of_getElem? (i := 26) rfl)) rfl⟩
theorem cl_L_7 : Cond.classLink "PacketFieldLaw" 7 RX9 ∈ mtb := mtb_in (tb_1 (List.mem_of_getElem? (i := 15) rfl)) rfl
theorem ik_9 : Cond.instantiable RX9 11 ∈ mtb := mtb_in (tb_1 (List.mem_of_getElem? (i := 16) rfl)) rfl
theorem ii_9 : Cond.initialized RX9 ∈ mtb := mtb_in (tb_1 (List.mem_of_getElem? (i := 1) rfl)) rfl
theorem dz_9 : ∀ j, j < 11 → defaultValue (mft 9 j) = if mfr 9 j = true then .null else .int 0 := by decide +kernel
theorem cd_C_init : mCd mi_C_init 0 := ⟨mtb_in (tb_1 (List.mem_of_getElem? (i := 19) rfl)) rfl, mtb_in (tb_1 (List.mem_of_getElem? (i := 1) rfl)) rfl, by decide, by decide, by decide, by decide +kernel⟩
theorem ml_L_9 : Cond.methodLink "PacketFieldLaw" 9 mi_C_init.1 ∈ mtb := mtb_in (tb_1 (List.mem_of_getElem? (i := 17) rfl)) rfl
theorem im_C_init : Cond.instanceMethod mi_C_init.1 ∈ mtb := mtb_in (tb_1 (List.mem_of_getElem? (i := 18) rfl)) rfl
theorem cl_L_10 : Cond.classLink "PacketFieldLaw" 10 RX10 ∈ mtb := mtb_in (tb_4 (List.mem_of_getElem? (i := 180) rfl)) rfl
theorem ik_10 : Cond.instantiable RX10 81 ∈ mtb := mtb_in (tb_4 (List.mem_of_getElem? (i := 181) rfl)) rfl
theorem ii_10 : Cond.initialized RX10 ∈ mtb := mtb_in (tb_1 (List.mem_of_getElem? (i := 12) rfl)) rfl
theorem dz_10 : ∀ j, j < 81 → defaultValue (mft 10 j) = if mfr 10 j = true then .null else .int 0 := by decide +kernel
theorem cd_M_init : mCd mi_M_init 0 := ⟨mtb_in (tb_4 (List.mem_of_getElem? (i := 184) rfl)) rfl, mtb_in (tb_1 (List.mem_of_getElem? (i := 12) rfl)) rfl, by decide, by decide, by decide, by decide +kernel⟩
theorem ml_L_12 : Cond.methodLink "PacketFieldLaw" 12 mi_M_init.1 ∈ mtb := mtb_in (tb_4 (List.mem_of_getElem? (i := 182) rfl)) rfl
theorem im_M_init : Cond.instanceMethod mi_M_init.1 ∈ mtb := mtb_in (tb_4 (List.mem_of_getElem? (i := 183) rfl)) rfl
theorem cd_C_feed : mCd mi_C_feed 5 := ⟨mtb_in (tb_2 (List.mem_of_getElem? (i := 185) rfl)) rfl, mtb_in (tb_1 (List.mem_of_getElem? (i := 1) rfl)) rfl, by decide, by decide, by decide, by decide +kernel⟩
theorem ml_L_13 : Cond.methodLink "PacketFieldLaw" 13 mi_C_feed.1 ∈ mtb := mtb_in (tb_2 (List.mem_of_getElem? (i := 182) rfl)) rfl
theorem im_C_feed : Cond.instanceMethod mi_C_feed.1 ∈ mtb := mtb_in (tb_2 (List.mem_of_getElem? (i := 183) rfl)) rfl
theorem se_C_feed : Cond.selects mi_C_feed.1.cls mi_C_feed.1 mi_C_feed.1 ∈ mtb := mtb_in (tb_2 (List.mem_of_getElem? (i := 184) rfl)) rfl
theorem cd_M_feed : mCd mi_M_feed 5 := ⟨mtb_in (tb_5 (List.mem_of_getElem? (i := 194) rfl)) rfl, mtb_in (tb_1 (List.mem_of_getElem? (i := 12) rfl)) rfl, by decide, by decide, by decide, by decide +kernel⟩
theorem ml_L_17 : Cond.methodLink "PacketFieldLaw" 17 mi_M_feed.1 ∈ mtb := mtb_in (tb_5 (List.mem_of_getElem? (i := 191) rfl)) rfl
theorem im_M_feed : Cond.instanceMethod mi_M_feed.1 ∈ mtb := mtb_in (tb_5 (List.mem_of_getElem? (i := 192) rfl)) rfl
theorem se_M_feed : Cond.selects mi_M_feed.1.cls mi_M_feed.1 mi_M_feed.1 ∈ mtb := mtb_in (tb_5 (List.mem_of_getElem? (i := 193) rfl)) rfl
theorem cd_C_end : mCd mi_C_end 1 := ⟨mtb_in (tb_2 (List.mem_of_getElem? (i := 197) rfl)) rfl, mtb_in (tb_1 (List.mem_of_getElem? (i := 1) rfl)) rfl, by decide, by decide, by decide, by decide +kernel⟩
theorem ml_L_18 : Cond.methodLink "PacketFieldLaw" 18 mi_C_end.1 ∈ mtb := mtb_in (tb_2 (List.mem_of_getElem? (i := 194) rfl)) rfl
theorem im_C_end : Cond.instanceMethod mi_C_end.1 ∈ mtb := mtb_in (tb_2 (List.mem_of_getElem? (i := 195) rfl)) rfl
theorem se_C_end : Cond.selects mi_C_end.1.cls mi_C_end.1 mi_C_end.1 ∈ mtb := mtb_in (tb_2 (List.mem_of_getElem? (i := 196) rfl)) rfl
theorem cd_M_end : mCd mi_M_end 1 := ⟨mtb_in (tb_5 (List.mem_of_getElem? (i := 202) rfl)) rfl, mtb_in (tb_1 (List.mem_of_getElem? (i := 12) rfl)) rfl, by decide, by decide, by decide, by decide +kernel⟩
theorem ml_L_22 : Cond.methodLink "PacketFieldLaw" 22 mi_M_end.1 ∈ mtb := mtb_in (tb_5 (List.mem_of_getElem? (i := 199) rfl)) rfl
theorem im_M_end : Cond.instanceMethod mi_M_end.1 ∈ mtb := mtb_in (tb_5 (List.mem_of_getElem? (i := 200) rfl)) rfl
theorem se_M_end : Cond.selects mi_M_end.1.cls mi_M_end.1 mi_M_end.1 ∈ mtb := mtb_in (tb_5 (List.mem_of_getElem? (i := 201) rfl)) rfl
theorem cd_C_out : mCd mi_C_out 1 := ⟨mtb_in (tb_2 (List.mem_of_getElem? (i := 201) rfl)) rfl, mtb_in (tb_1 (List.mem_of_getElem? (i := 1) rfl)) rfl, by decide, by decide, by decide, by decide +kernel⟩
theorem ml_L_23 : Cond.methodLink "PacketFieldLaw" 23 mi_C_out.1 ∈ mtb := mtb_in (tb_2 (List.mem_of_getElem? (i := 198) rfl)) rfl
theorem im_C_out : Cond.instanceMethod mi_C_out.1 ∈ mtb := mtb_in (tb_2 (List.mem_of_getElem? (i := 199) rfl)) rfl
theorem se_C_out : Cond.selects mi_C_out.1.cls mi_C_out.1 mi_C_out.1 ∈ mtb := mtb_in (tb_2 (List.mem_of_getElem? (i := 200) rfl)) rfl
theorem cd_M_out : mCd mi_M_out 1 := ⟨mtb_in (tb_5 (List.mem_of_getElem? (i := 209) rfl)) rfl, mtb_in (tb_1 (List.mem_of_getElem? (i := 12) rfl)) rfl, by decide, by decide, by decide, by decide +kernel⟩
theorem ml_L_27 : Cond.methodLink "PacketFieldLaw" 27 mi_M_out.1 ∈ mtb := mtb_in (tb_5 (List.mem_of_getElem? (i := 206) rfl)) rfl
theorem im_M_out : Cond.instanceMethod mi_M_out.1 ∈ mtb := mtb_in (tb_5 (List.mem_of_getElem? (i := 207) rfl)) rfl
theorem se_M_out : Cond.selects mi_M_out.1.cls mi_M_out.1 mi_M_out.1 ∈ mtb := mtb_in (tb_5 (List.mem_of_getElem? (i := 208) rfl)) rfl
theorem cd_C_bits : mCd mi_C_bits 1 := ⟨mtb_in (tb_2 (List.mem_of_getElem? (i := 209) rfl)) rfl, mtb_in (tb_1 (List.mem_of_getElem? (i := 1) rfl)) rfl, by decide, by decide, by decide, by decide +kernel⟩
theorem ml_L_28 : Cond.methodLink "PacketFieldLaw" 28 mi_C_bits.1 ∈ mtb := mtb_in (tb_2 (List.mem_of_getElem? (i := 206) rfl)) rfl
theorem im_C_bits : Cond.instanceMethod mi_C_bits.1 ∈ mtb := mtb_in (tb_2 (List.mem_of_getElem? (i := 207) rfl)) rfl
theorem se_C_bits : Cond.selects mi_C_bits.1.cls mi_C_bits.1 mi_C_bits.1 ∈ mtb := mtb_in (tb_2 (List.mem_of_getElem? (i := 208) rfl)) rfl
theorem cd_M_bits : mCd mi_M_bits 1 := ⟨mtb_in (tb_5 (List.mem_of_getElem? (i := 213) rfl)) rfl, mtb_in (tb_1 (List.mem_of_getElem? (i := 12) rfl)) rfl, by decide, by decide, by decide, by decide +kernel⟩
theorem ml_L_31 : Cond.methodLink "PacketFieldLaw" 31 mi_M_bits.1 ∈ mtb := mtb_in (tb_5 (List.mem_of_getElem? (i := 210) rfl)) rfl
theorem im_M_bits : Cond.instanceMethod mi_M_bits.1 ∈ mtb := mtb_in (tb_5 (List.mem_of_getElem? (i := 211) rfl)) rfl
theorem se_M_bits : Cond.selects mi_M_bits.1.cls mi_M_bits.1 mi_M_bits.1 ∈ mtb := mtb_in (tb_5 (List.mem_of_getElem? (i := 212) rfl)) rfl
theorem cd_C_unbits : mCd mi_C_unbits 0 := ⟨mtb_in (tb_3 (List.mem_of_getElem? (i := 21) rfl)) rfl, mtb_in (tb_1 (List.mem_of_getElem? (i := 1) rfl)) rfl, by decide, by decide, by decide, by decide +kernel⟩
theorem ml_L_32 : Cond.methodLink "PacketFieldLaw" 32 mi_C_unbits.1 ∈ mtb := mtb_in (tb_3 (List.mem_of_getElem? (i := 18) rfl)) rfl
theorem im_C_unbits : Cond.instanceMethod mi_C_unbits.1 ∈ mtb := mtb_in (tb_3 (List.mem_of_getElem? (i := 19) rfl)) rfl
theorem se_C_unbits : Cond.selects mi_C_unbits.1.cls mi_C_unbits.1 mi_C_unbits.1 ∈ mtb := mtb_in (tb_3 (List.mem_of_getElem? (i := 20) rfl)) rfl
theorem cd_M_unbits : mCd mi_M_unbits 0 := ⟨mtb_in (tb_5 (List.mem_of_getElem? (i := 238) rfl)) rfl, mtb_in (tb_1 (List.mem_of_getElem? (i := 12) rfl)) rfl, by decide, by decide, by decide, by decide +kernel⟩
theorem ml_L_36 : Cond.methodLink "PacketFieldLaw" 36 mi_M_unbits.1 ∈ mtb := mtb_in (tb_5 (List.mem_of_getElem? (i := 235) rfl)) rfl
theorem im_M_unbits : Cond.instanceMethod mi_M_unbits.1 ∈ mtb := mtb_in (tb_5 (List.mem_of_getElem? (i := 236) rfl)) rfl
theorem se_M_unbits : Cond.selects mi_M_unbits.1.cls mi_M_unbits.1 mi_M_unbits.1 ∈ mtb := mtb_in (tb_5 (List.mem_of_getElem? (i := 237) rfl)) rfl
theorem cd_C_tune : mCd mi_C_tune 3 := ⟨mtb_in (tb_3 (List.mem_of_getElem? (i := 74) rfl)) rfl, mtb_in (tb_1 (List.mem_of_getElem? (i := 1) rfl)) rfl, by decide, by decide, by decide, by decide +kernel⟩
theorem ml_L_42 : Cond.methodLink "PacketFieldLaw" 42 mi_C_tune.1 ∈ mtb := mtb_in (tb_3 (List.mem_of_getElem? (i := 71) rfl)) rfl
theorem im_C_tune : Cond.instanceMethod mi_C_tune.1 ∈ mtb := mtb_in (tb_3 (List.mem_of_getElem? (i := 72) rfl)) rfl
theorem se_C_tune : Cond.selects mi_C_tune.1.cls mi_C_tune.1 mi_C_tune.1 ∈ mtb := mtb_in (tb_3 (List.mem_of_getElem? (i := 73) rfl)) rfl
theorem cd_M_tune : mCd mi_M_tune 3 := ⟨mtb_in (tb_6 (List.mem_of_getElem? (i := 24) rfl)) rfl, mtb_in (tb_1 (List.mem_of_getElem? (i := 12) rfl)) rfl, by decide, by decide, by decide, by decide +kernel⟩
theorem ml_L_46 : Cond.methodLink "PacketFieldLaw" 46 mi_M_tune.1 ∈ mtb := mtb_in (tb_6 (List.mem_of_getElem? (i := 21) rfl)) rfl
theorem im_M_tune : Cond.instanceMethod mi_M_tune.1 ∈ mtb := mtb_in (tb_6 (List.mem_of_getElem? (i := 22) rfl)) rfl
theorem se_M_tune : Cond.selects mi_M_tune.1.cls mi_M_tune.1 mi_M_tune.1 ∈ mtb := mtb_in (tb_6 (List.mem_of_getElem? (i := 23) rfl)) rfl
theorem cd_C_raw : mCd mi_C_raw 1 := ⟨mtb_in (tb_3 (List.mem_of_getElem? (i := 84) rfl)) rfl, mtb_in (tb_1 (List.mem_of_getElem? (i := 1) rfl)) rfl, by decide, by decide, by decide, by decide +kernel⟩
theorem ml_L_47 : Cond.methodLink "PacketFieldLaw" 47 mi_C_raw.1 ∈ mtb := mtb_in (tb_3 (List.mem_of_getElem? (i := 81) rfl)) rfl
theorem im_C_raw : Cond.instanceMethod mi_C_raw.1 ∈ mtb := mtb_in (tb_3 (List.mem_of_getElem? (i := 82) rfl)) rfl
theorem se_C_raw : Cond.selects mi_C_raw.1.cls mi_C_raw.1 mi_C_raw.1 ∈ mtb := mtb_in (tb_3 (List.mem_of_getElem? (i := 83) rfl)) rfl
theorem cd_M_raw : mCd mi_M_raw 1 := ⟨mtb_in (tb_6 (List.mem_of_getElem? (i := 31) rfl)) rfl, mtb_in (tb_1 (List.mem_of_getElem? (i := 12) rfl)) rfl, by decide, by decide, by decide, by decide +kernel⟩
theorem ml_L_50 : Cond.methodLink "PacketFieldLaw" 50 mi_M_raw.1 ∈ mtb := mtb_in (tb_6 (List.mem_of_getElem? (i := 28) rfl)) rfl
theorem im_M_raw : Cond.instanceMethod mi_M_raw.1 ∈ mtb := mtb_in (tb_6 (List.mem_of_getElem? (i := 29) rfl)) rfl
theorem se_M_raw : Cond.selects mi_M_raw.1.cls mi_M_raw.1 mi_M_raw.1 ∈ mtb := mtb_in (tb_6 (List.mem_of_getElem? (i := 30) rfl)) rfl
theorem cd_C_call : mCd mi_C_call 4 := ⟨mtb_in (tb_3 (List.mem_of_getElem? (i := 92) rfl)) rfl, mtb_in (tb_1 (List.mem_of_getElem? (i := 1) rfl)) rfl, by decide, by decide, by decide, by decide +kernel⟩
theorem ml_L_51 : Cond.methodLink "PacketFieldLaw" 51 mi_C_call.1 ∈ mtb := mtb_in (tb_3 (List.mem_of_getElem? (i := 89) rfl)) rfl
theorem im_C_call : Cond.instanceMethod mi_C_call.1 ∈ mtb := mtb_in (tb_3 (List.mem_of_getElem? (i := 90) rfl)) rfl
theorem se_C_call : Cond.selects mi_C_call.1.cls mi_C_call.1 mi_C_call.1 ∈ mtb := mtb_in (tb_3 (List.mem_of_getElem? (i := 91) rfl)) rfl
theorem cd_M_call : mCd mi_M_call 4 := ⟨mtb_in (tb_7 (List.mem_of_getElem? (i := 3) rfl)) rfl, mtb_in (tb_1 (List.mem_of_getElem? (i := 12) rfl)) rfl, by decide, by decide, by decide, by decide +kernel⟩
theorem ml_L_55 : Cond.methodLink "PacketFieldLaw" 55 mi_M_call.1 ∈ mtb := mtb_in (tb_7 (List.mem_of_getElem? (i := 0) rfl)) rfl
theorem im_M_call : Cond.instanceMethod mi_M_call.1 ∈ mtb := mtb_in (tb_7 (List.mem_of_getElem? (i := 1) rfl)) rfl
theorem se_M_call : Cond.selects mi_M_call.1.cls mi_M_call.1 mi_M_call.1 ∈ mtb := mtb_in (tb_7 (List.mem_of_getElem? (i := 2) rfl)) rfl
theorem cd_C_leave : mCd mi_C_leave 2 := ⟨mtb_in (tb_3 (List.mem_of_getElem? (i := 132) rfl)) rfl, mtb_in (tb_1 (List.mem_of_getElem? (i := 1) rfl)) rfl, by decide, by decide, by decide, by decide +kernel⟩
theorem ml_L_56 : Cond.methodLink "PacketFieldLaw" 56 mi_C_leave.1 ∈ mtb := mtb_in (tb_3 (List.mem_of_getElem? (i := 129) rfl)) rfl
theorem im_C_leave : Cond.instanceMethod mi_C_leave.1 ∈ mtb := mtb_in (tb_3 (List.mem_of_getElem? (i := 130) rfl)) rfl
theorem se_C_leave : Cond.selects mi_C_leave.1.cls mi_C_leave.1 mi_C_leave.1 ∈ mtb := mtb_in (tb_3 (List.mem_of_getElem? (i := 131) rfl)) rfl
theorem cd_M_leave : mCd mi_M_leave 2 := ⟨mtb_in (tb_7 (List.mem_of_getElem? (i := 7) rfl)) rfl, mtb_in (tb_1 (List.mem_of_getElem? (i := 12) rfl)) rfl, by decide, by decide, by decide, by decide +kernel⟩
theorem ml_L_60 : Cond.methodLink "PacketFieldLaw" 60 mi_M_leave.1 ∈ mtb := mtb_in (tb_7 (List.mem_of_getElem? (i := 4) rfl)) rfl
theorem im_M_leave : Cond.instanceMethod mi_M_leave.1 ∈ mtb := mtb_in (tb_7 (List.mem_of_getElem? (i := 5) rfl)) rfl
theorem se_M_leave : Cond.selects mi_M_leave.1.cls mi_M_leave.1 mi_M_leave.1 ∈ mtb := mtb_in (tb_7 (List.mem_of_getElem? (i := 6) rfl)) rfl
theorem cd_C_give : mCd mi_C_give 2 := ⟨mtb_in (tb_3 (List.mem_of_getElem? (i := 136) rfl)) rfl, mtb_in (tb_1 (List.mem_of_getElem? (i := 1) rfl)) rfl, by decide, by decide, by decide, by decide +kernel⟩
theorem ml_L_61 : Cond.methodLink "PacketFieldLaw" 61 mi_C_give.1 ∈ mtb := mtb_in (tb_3 (List.mem_of_getElem? (i := 133) rfl)) rfl
theorem im_C_give : Cond.instanceMethod mi_C_give.1 ∈ mtb := mtb_in (tb_3 (List.mem_of_getElem? (i := 134) rfl)) rfl
theorem se_C_give : Cond.selects mi_C_give.1.cls mi_C_give.1 mi_C_give.1 ∈ mtb := mtb_in (tb_3 (List.mem_of_getElem? (i := 135) rfl)) rfl
theorem cd_M_give : mCd mi_M_give 2 := ⟨mtb_in (tb_7 (List.mem_of_getElem? (i := 11) rfl)) rfl, mtb_in (tb_1 (List.mem_of_getElem? (i := 12) rfl)) rfl, by decide, by decide, by decide, by decide +kernel⟩
theorem ml_L_65 : Cond.methodLink "PacketFieldLaw" 65 mi_M_give.1 ∈ mtb := mtb_in (tb_7 (List.mem_of_getElem? (i := 8) rfl)) rfl
theorem im_M_give : Cond.instanceMethod mi_M_give.1 ∈ mtb := mtb_in (tb_7 (List.mem_of_getElem? (i := 9) rfl)) rfl
theorem se_M_give : Cond.selects mi_M_give.1.cls mi_M_give.1 mi_M_give.1 ∈ mtb := mtb_in (tb_7 (List.mem_of_getElem? (i := 10) rfl)) rfl
theorem cd_C_read : mCd mi_C_read 3 := ⟨mtb_in (tb_3 (List.mem_of_getElem? (i := 144) rfl)) rfl, mtb_in (tb_1 (List.mem_of_getElem? (i := 1) rfl)) rfl, by decide, by decide, by decide, by decide +kernel⟩
theorem ml_L_66 : Cond.methodLink "PacketFieldLaw" 66 mi_C_read.1 ∈ mtb := mtb_in (tb_3 (List.mem_of_getElem? (i := 141) rfl)) rfl
theorem im_C_read : Cond.instanceMethod mi_C_read.1 ∈ mtb := mtb_in (tb_3 (List.mem_of_getElem? (i := 142) rfl)) rfl
theorem se_C_read : Cond.selects mi_C_read.1.cls mi_C_read.1 mi_C_read.1 ∈ mtb := mtb_in (tb_3 (List.mem_of_getElem? (i := 143) rfl)) rfl
theorem cd_M_read : mCd mi_M_read 3 := ⟨mtb_in (tb_7 (List.mem_of_getElem? (i := 15) rfl)) rfl, mtb_in (tb_1 (List.mem_of_getElem? (i := 12) rfl)) rfl, by decide, by decide, by decide, by decide +kernel⟩
theorem ml_L_70 : Cond.methodLink "PacketFieldLaw" 70 mi_M_read.1 ∈ mtb := mtb_in (tb_7 (List.mem_of_getElem? (i := 12) rfl)) rfl
theorem im_M_read : Cond.instanceMethod mi_M_read.1 ∈ mtb := mtb_in (tb_7 (List.mem_of_getElem? (i := 13) rfl)) rfl
theorem se_M_read : Cond.selects mi_M_read.1.cls mi_M_read.1 mi_M_read.1 ∈ mtb := mtb_in (tb_7 (List.mem_of_getElem? (i := 14) rfl)) rfl
theorem cd_C_letter : mCd mi_C_letter 2 := ⟨mtb_in (tb_3 (List.mem_of_getElem? (i := 163) rfl)) rfl, mtb_in (tb_1 (List.mem_of_getElem? (i := 1) rfl)) rfl, by decide, by decide, by decide, by decide +kernel⟩
theorem ml_L_71 : Cond.methodLink "PacketFieldLaw" 71 mi_C_letter.1 ∈ mtb := mtb_in (tb_3 (List.mem_of_getElem? (i := 160) rfl)) rfl
theorem im_C_letter : Cond.instanceMethod mi_C_letter.1 ∈ mtb := mtb_in (tb_3 (List.mem_of_getElem? (i := 161) rfl)) rfl
theorem se_C_letter : Cond.selects mi_C_letter.1.cls mi_C_letter.1 mi_C_letter.1 ∈ mtb := mtb_in (tb_3 (List.mem_of_getElem? (i := 162) rfl)) rfl
theorem cd_M_letter2 : mCd mi_M_letter2 2 := ⟨mtb_in (tb_7 (List.mem_of_getElem? (i := 19) rfl)) rfl, mtb_in (tb_1 (List.mem_of_getElem? (i := 12) rfl)) rfl, by decide, by decide, by decide, by decide +kernel⟩
theorem ml_L_74 : Cond.methodLink "PacketFieldLaw" 74 mi_M_letter2.1 ∈ mtb := mtb_in (tb_7 (List.mem_of_getElem? (i := 16) rfl)) rfl
theorem im_M_letter2 : Cond.instanceMethod mi_M_letter2.1 ∈ mtb := mtb_in (tb_7 (List.mem_of_getElem? (i := 17) rfl)) rfl
theorem se_M_letter2 : Cond.selects mi_M_letter2.1.cls mi_M_letter2.1 mi_M_letter2.1 ∈ mtb := mtb_in (tb_7 (List.mem_of_getElem? (i := 18) rfl)) rfl
theorem cd_C_take : mCd mi_C_take 1 := ⟨mtb_in (tb_3 (List.mem_of_getElem? (i := 180) rfl)) rfl, mtb_in (tb_1 (List.mem_of_getElem? (i := 1) rfl)) rfl, by decide, by decide, by decide, by decide +kernel⟩
theorem ml_L_75 : Cond.methodLink "PacketFieldLaw" 75 mi_C_take.1 ∈ mtb := mtb_in (tb_3 (List.mem_of_getElem? (i := 177) rfl)) rfl
theorem im_C_take : Cond.instanceMethod mi_C_take.1 ∈ mtb := mtb_in (tb_3 (List.mem_of_getElem? (i := 178) rfl)) rfl
theorem se_C_take : Cond.selects mi_C_take.1.cls mi_C_take.1 mi_C_take.1 ∈ mtb := mtb_in (tb_3 (List.mem_of_getElem? (i := 179) rfl)) rfl
theorem cd_M_take : mCd mi_M_take 1 := ⟨mtb_in (tb_7 (List.mem_of_getElem? (i := 23) rfl)) rfl, mtb_in (tb_1 (List.mem_of_getElem? (i := 12) rfl)) rfl, by decide, by decide, by decide, by decide +kernel⟩
theorem ml_L_78 : Cond.methodLink "PacketFieldLaw" 78 mi_M_take.1 ∈ mtb := mtb_in (tb_7 (List.mem_of_getElem? (i := 20) rfl)) rfl
theorem im_M_take : Cond.instanceMethod mi_M_take.1 ∈ mtb := mtb_in (tb_7 (List.mem_of_getElem? (i := 21) rfl)) rfl
theorem se_M_take : Cond.selects mi_M_take.1.cls mi_M_take.1 mi_M_take.1 ∈ mtb := mtb_in (tb_7 (List.mem_of_getElem? (i := 22) rfl)) rfl
theorem cd_C_beacon : mCd mi_C_beacon 1 := ⟨mtb_in (tb_3 (List.mem_of_getElem? (i := 193) rfl)) rfl, mtb_in (tb_1 (List.mem_of_getElem? (i := 1) rfl)) rfl, by decide, by decide, by decide, by decide +kernel⟩
theorem ml_L_79 : Cond.methodLink "PacketFieldLaw" 79 mi_C_beacon.1 ∈ mtb := mtb_in (tb_3 (List.mem_of_getElem? (i := 190) rfl)) rfl
theorem im_C_beacon : Cond.instanceMethod mi_C_beacon.1 ∈ mtb := mtb_in (tb_3 (List.mem_of_getElem? (i := 191) rfl)) rfl
theorem se_C_beacon : Cond.selects mi_C_beacon.1.cls mi_C_beacon.1 mi_C_beacon.1 ∈ mtb := mtb_in (tb_3 (List.mem_of_getElem? (i := 192) rfl)) rfl
theorem cd_M_beacon : mCd mi_M_beacon 1 := ⟨mtb_in (tb_7 (List.mem_of_getElem? (i := 27) rfl)) rfl, mtb_in (tb_1 (List.mem_of_getElem? (i := 12) rfl)) rfl, by decide, by decide, by decide, by decide +kernel⟩
theorem ml_L_82 : Cond.methodLink "PacketFieldLaw" 82 mi_M_beacon.1 ∈ mtb := mtb_in (tb_7 (List.mem_of_getElem? (i := 24) rfl)) rfl
theorem im_M_beacon : Cond.instanceMethod mi_M_beacon.1 ∈ mtb := mtb_in (tb_7 (List.mem_of_getElem? (i := 25) rfl)) rfl
theorem se_M_beacon : Cond.selects mi_M_beacon.1.cls mi_M_beacon.1 mi_M_beacon.1 ∈ mtb := mtb_in (tb_7 (List.mem_of_getElem? (i := 26) rfl)) rfl
theorem cd_C_run : mCd mi_C_run 1 := ⟨mtb_in (tb_3 (List.mem_of_getElem? (i := 216) rfl)) rfl, mtb_in (tb_1 (List.mem_of_getElem? (i := 1) rfl)) rfl, by decide, by decide, by decide, by decide +kernel⟩
theorem ml_L_83 : Cond.methodLink "PacketFieldLaw" 83 mi_C_run.1 ∈ mtb := mtb_in (tb_3 (List.mem_of_getElem? (i := 213) rfl)) rfl
theorem im_C_run : Cond.instanceMethod mi_C_run.1 ∈ mtb := mtb_in (tb_3 (List.mem_of_getElem? (i := 214) rfl)) rfl
theorem se_C_run : Cond.selects mi_C_run.1.cls mi_C_run.1 mi_C_run.1 ∈ mtb := mtb_in (tb_3 (List.mem_of_getElem? (i := 215) rfl)) rfl
theorem cd_M_run : mCd mi_M_run 1 := ⟨mtb_in (tb_6 (List.mem_of_getElem? (i := 51) rfl)) rfl, mtb_in (tb_1 (List.mem_of_getElem? (i := 12) rfl)) rfl, by decide, by decide, by decide, by decide +kernel⟩
theorem ml_L_86 : Cond.methodLink "PacketFieldLaw" 86 mi_M_run.1 ∈ mtb := mtb_in (tb_6 (List.mem_of_getElem? (i := 48) rfl)) rfl
theorem im_M_run : Cond.instanceMethod mi_M_run.1 ∈ mtb := mtb_in (tb_6 (List.mem_of_getElem? (i := 49) rfl)) rfl
theorem se_M_run : Cond.selects mi_M_run.1.cls mi_M_run.1 mi_M_run.1 ∈ mtb := mtb_in (tb_6 (List.mem_of_getElem? (i := 50) rfl)) rfl
theorem cd_C_time : mCd mi_C_time 0 := ⟨mtb_in (tb_4 (List.mem_of_getElem? (i := 154) rfl)) rfl, mtb_in (tb_1 (List.mem_of_getElem? (i := 1) rfl)) rfl, by decide, by decide, by decide, by decide +kernel⟩
theorem ml_L_87 : Cond.methodLink "PacketFieldLaw" 87 mi_C_time.1 ∈ mtb := mtb_in (tb_4 (List.mem_of_getElem? (i := 151) rfl)) rfl
theorem im_C_time : Cond.instanceMethod mi_C_time.1 ∈ mtb := mtb_in (tb_4 (List.mem_of_getElem? (i := 152) rfl)) rfl
theorem se_C_time : Cond.selects mi_C_time.1.cls mi_C_time.1 mi_C_time.1 ∈ mtb := mtb_in (tb_4 (List.mem_of_getElem? (i := 153) rfl)) rfl
theorem cd_M_time : mCd mi_M_time 0 := ⟨mtb_in (tb_6 (List.mem_of_getElem? (i := 235) rfl)) rfl, mtb_in (tb_1 (List.mem_of_getElem? (i := 12) rfl)) rfl, by decide, by decide, by decide, by decide +kernel⟩
theorem ml_L_90 : Cond.methodLink "PacketFieldLaw" 90 mi_M_time.1 ∈ mtb := mtb_in (tb_6 (List.mem_of_getElem? (i := 232) rfl)) rfl
theorem im_M_time : Cond.instanceMethod mi_M_time.1 ∈ mtb := mtb_in (tb_6 (List.mem_of_getElem? (i := 233) rfl)) rfl
theorem se_M_time : Cond.selects mi_M_time.1.cls mi_M_time.1 mi_M_time.1 ∈ mtb := mtb_in (tb_6 (List.mem_of_getElem? (i := 234) rfl)) rfl
theorem cd_C_station : mCd mi_C_station 2 := ⟨mtb_in (tb_4 (List.mem_of_getElem? (i := 158) rfl)) rfl, mtb_in (tb_1 (List.mem_of_getElem? (i := 1) rfl)) rfl, by decide, by decide, by decide, by decide +kernel⟩
theorem ml_L_91 : Cond.methodLink "PacketFieldLaw" 91 mi_C_station.1 ∈ mtb := mtb_in (tb_4 (List.mem_of_getElem? (i := 155) rfl)) rfl
theorem im_C_station : Cond.instanceMethod mi_C_station.1 ∈ mtb := mtb_in (tb_4 (List.mem_of_getElem? (i := 156) rfl)) rfl
theorem se_C_station : Cond.selects mi_C_station.1.cls mi_C_station.1 mi_C_station.1 ∈ mtb := mtb_in (tb_4 (List.mem_of_getElem? (i := 157) rfl)) rfl
theorem cd_M_station : mCd mi_M_station 2 := ⟨mtb_in (tb_6 (List.mem_of_getElem? (i := 239) rfl)) rfl, mtb_in (tb_1 (List.mem_of_getElem? (i := 12) rfl)) rfl, by decide, by decide, by decide, by decide +kernel⟩
theorem ml_L_94 : Cond.methodLink "PacketFieldLaw" 94 mi_M_station.1 ∈ mtb := mtb_in (tb_6 (List.mem_of_getElem? (i := 236) rfl)) rfl
theorem im_M_station : Cond.instanceMethod mi_M_station.1 ∈ mtb := mtb_in (tb_6 (List.mem_of_getElem? (i := 237) rfl)) rfl
theorem se_M_station : Cond.selects mi_M_station.1.cls mi_M_station.1 mi_M_station.1 ∈ mtb := mtb_in (tb_6 (List.mem_of_getElem? (i := 238) rfl)) rfl
theorem cd_C_link : mCd mi_C_link 3 := ⟨mtb_in (tb_4 (List.mem_of_getElem? (i := 162) rfl)) rfl, mtb_in (tb_1 (List.mem_of_getElem? (i := 1) rfl)) rfl, by decide, by decide, by decide, by decide +kernel⟩
theorem ml_L_95 : Cond.methodLink "PacketFieldLaw" 95 mi_C_link.1 ∈ mtb := mtb_in (tb_4 (List.mem_of_getElem? (i := 159) rfl)) rfl
theorem im_C_link : Cond.instanceMethod mi_C_link.1 ∈ mtb := mtb_in (tb_4 (List.mem_of_getElem? (i := 160) rfl)) rfl
theorem se_C_link : Cond.selects mi_C_link.1.cls mi_C_link.1 mi_C_link.1 ∈ mtb := mtb_in (tb_4 (List.mem_of_getElem? (i := 161) rfl)) rfl
theorem cd_M_link : mCd mi_M_link 3 := ⟨mtb_in (tb_7 (List.mem_of_getElem? (i := 31) rfl)) rfl, mtb_in (tb_1 (List.mem_of_getElem? (i := 12) rfl)) rfl, by decide, by decide, by decide, by decide +kernel⟩
theorem ml_L_98 : Cond.methodLink "PacketFieldLaw" 98 mi_M_link.1 ∈ mtb := mtb_in (tb_7 (List.mem_of_getElem? (i := 28) rfl)) rfl
theorem im_M_link : Cond.instanceMethod mi_M_link.1 ∈ mtb := mtb_in (tb_7 (List.mem_of_getElem? (i := 29) rfl)) rfl
theorem se_M_link : Cond.selects mi_M_link.1.cls mi_M_link.1 mi_M_link.1 ∈ mtb := mtb_in (tb_7 (List.mem_of_getElem? (i := 30) rfl)) rfl
theorem cd_C_route : mCd mi_C_route 4 := ⟨mtb_in (tb_4 (List.mem_of_getElem? (i := 166) rfl)) rfl, mtb_in (tb_1 (List.mem_of_getElem? (i := 1) rfl)) rfl, by decide, by decide, by decide, by decide +kernel⟩
theorem ml_L_99 : Cond.methodLink "PacketFieldLaw" 99 mi_C_route.1 ∈ mtb := mtb_in (tb_4 (List.mem_of_getElem? (i := 163) rfl)) rfl
theorem im_C_route : Cond.instanceMethod mi_C_route.1 ∈ mtb := mtb_in (tb_4 (List.mem_of_getElem? (i := 164) rfl)) rfl
theorem se_C_route : Cond.selects mi_C_route.1.cls mi_C_route.1 mi_C_route.1 ∈ mtb := mtb_in (tb_4 (List.mem_of_getElem? (i := 165) rfl)) rfl
theorem cd_M_route : mCd mi_M_route 4 := ⟨mtb_in (tb_7 (List.mem_of_getElem? (i := 35) rfl)) rfl, mtb_in (tb_1 (List.mem_of_getElem? (i := 12) rfl)) rfl, by decide, by decide, by decide, by decide +kernel⟩
theorem ml_L_103 : Cond.methodLink "PacketFieldLaw" 103 mi_M_route.1 ∈ mtb := mtb_in (tb_7 (List.mem_of_getElem? (i := 32) rfl)) rfl
theorem im_M_route : Cond.instanceMethod mi_M_route.1 ∈ mtb := mtb_in (tb_7 (List.mem_of_getElem? (i := 33) rfl)) rfl
theorem se_M_route : Cond.selects mi_M_route.1.cls mi_M_route.1 mi_M_route.1 ∈ mtb := mtb_in (tb_7 (List.mem_of_getElem? (i := 34) rfl)) rfl
theorem cd_C_best : mCd mi_C_best 2 := ⟨mtb_in (tb_4 (List.mem_of_getElem? (i := 175) rfl)) rfl, mtb_in (tb_1 (List.mem_of_getElem? (i := 1) rfl)) rfl, by decide, by decide, by decide, by decide +kernel⟩
theorem ml_L_104 : Cond.methodLink "PacketFieldLaw" 104 mi_C_best.1 ∈ mtb := mtb_in (tb_4 (List.mem_of_getElem? (i := 172) rfl)) rfl
theorem im_C_best : Cond.instanceMethod mi_C_best.1 ∈ mtb := mtb_in (tb_4 (List.mem_of_getElem? (i := 173) rfl)) rfl
theorem se_C_best : Cond.selects mi_C_best.1.cls mi_C_best.1 mi_C_best.1 ∈ mtb := mtb_in (tb_4 (List.mem_of_getElem? (i := 174) rfl)) rfl
theorem cd_M_best : mCd mi_M_best 2 := ⟨mtb_in (tb_7 (List.mem_of_getElem? (i := 39) rfl)) rfl, mtb_in (tb_1 (List.mem_of_getElem? (i := 12) rfl)) rfl, by decide, by decide, by decide, by decide +kernel⟩
theorem ml_L_107 : Cond.methodLink "PacketFieldLaw" 107 mi_M_best.1 ∈ mtb := mtb_in (tb_7 (List.mem_of_getElem? (i := 36) rfl)) rfl
theorem im_M_best : Cond.instanceMethod mi_M_best.1 ∈ mtb := mtb_in (tb_7 (List.mem_of_getElem? (i := 37) rfl)) rfl
theorem se_M_best : Cond.selects mi_M_best.1.cls mi_M_best.1 mi_M_best.1 ∈ mtb := mtb_in (tb_7 (List.mem_of_getElem? (i := 38) rfl)) rfl
theorem cd_C_queued : mCd mi_C_queued 3 := ⟨mtb_in (tb_4 (List.mem_of_getElem? (i := 179) rfl)) rfl, mtb_in (tb_1 (List.mem_of_getElem? (i := 1) rfl)) rfl, by decide, by decide, by decide, by decide +kernel⟩
theorem ml_L_108 : Cond.methodLink "PacketFieldLaw" 108 mi_C_queued.1 ∈ mtb := mtb_in (tb_4 (List.mem_of_getElem? (i := 176) rfl)) rfl
theorem im_C_queued : Cond.instanceMethod mi_C_queued.1 ∈ mtb := mtb_in (tb_4 (List.mem_of_getElem? (i := 177) rfl)) rfl
theorem se_C_queued : Cond.selects mi_C_queued.1.cls mi_C_queued.1 mi_C_queued.1 ∈ mtb := mtb_in (tb_4 (List.mem_of_getElem? (i := 178) rfl)) rfl
theorem cd_M_queued : mCd mi_M_queued 3 := ⟨mtb_in (tb_6 (List.mem_of_getElem? (i := 47) rfl)) rfl, mtb_in (tb_1 (List.mem_of_getElem? (i := 12) rfl)) rfl, by decide, by decide, by decide, by decide +kernel⟩
theorem ml_L_111 : Cond.methodLink "PacketFieldLaw" 111 mi_M_queued.1 ∈ mtb := mtb_in (tb_6 (List.mem_of_getElem? (i := 44) rfl)) rfl
theorem im_M_queued : Cond.instanceMethod mi_M_queued.1 ∈ mtb := mtb_in (tb_6 (List.mem_of_getElem? (i := 45) rfl)) rfl
theorem se_M_queued : Cond.selects mi_M_queued.1.cls mi_M_queued.1 mi_M_queued.1 ∈ mtb := mtb_in (tb_6 (List.mem_of_getElem? (i := 46) rfl)) rfl
theorem cd_C_hears : mCd mi_C_hears 3 := ⟨mtb_in (tb_3 (List.mem_of_getElem? (i := 63) rfl)) rfl, mtb_in (tb_1 (List.mem_of_getElem? (i := 1) rfl)) rfl, by decide, by decide, by decide, by decide +kernel⟩
theorem ml_L_37 : Cond.methodLink "PacketFieldLaw" 37 mi_C_hears.1 ∈ mtb := mtb_in (tb_3 (List.mem_of_getElem? (i := 60) rfl)) rfl
theorem im_C_hears : Cond.instanceMethod mi_C_hears.1 ∈ mtb := mtb_in (tb_3 (List.mem_of_getElem? (i := 61) rfl)) rfl
theorem se_C_hears : Cond.selects mi_C_hears.1.cls mi_C_hears.1 mi_C_hears.1 ∈ mtb := mtb_in (tb_3 (List.mem_of_getElem? (i := 62) rfl)) rfl
theorem cd_M_hears : mCd mi_M_hears 3 := ⟨mtb_in (tb_6 (List.mem_of_getElem? (i := 14) rfl)) rfl, mtb_in (tb_1 (List.mem_of_getElem? (i := 12) rfl)) rfl, by decide, by decide, by decide, by decide +kernel⟩
theorem ml_L_41 : Cond.methodLink "PacketFieldLaw" 41 mi_M_hears.1 ∈ mtb := mtb_in (tb_6 (List.mem_of_getElem? (i := 11) rfl)) rfl
theorem im_M_hears : Cond.instanceMethod mi_M_hears.1 ∈ mtb := mtb_in (tb_6 (List.mem_of_getElem? (i := 12) rfl)) rfl
theorem se_M_hears : Cond.selects mi_M_hears.1.cls mi_M_hears.1 mi_M_hears.1 ∈ mtb := mtb_in (tb_6 (List.mem_of_getElem? (i := 13) rfl)) rfl
