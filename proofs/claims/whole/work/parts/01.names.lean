-- ===== PART A: goes FIRST, ahead of the names: the tables' words, and 'selects' of the private methods out of them =====
/-- a private method of a class that the tables say can be made, by its rows of tables_1 -/
def lw_okq (q : MethodName × Nat) : Prop := (q.1.cls ≠ "java/lang/invoke/MethodHandle" ∧ q.1.cls ≠ "java/lang/invoke/VarHandle") ∧ Cond.instantiable q.1.cls q.2 ∈ tables_1 ∧ Cond.privateMethod q.1 ∈ tables_1 ∧ Cond.instanceMethod q.1 ∈ tables_1
theorem lw_p0 : lw_okq (⟨"PacketField", "putLevels", "()V"⟩, 11) := ⟨⟨by decide +kernel, by decide +kernel⟩, List.mem_of_getElem? (i := 16) (by decide +kernel), List.mem_of_getElem? (i := 463) (by decide +kernel), List.mem_of_getElem? (i := 464) (by decide +kernel)⟩
theorem lw_p1 : lw_okq (⟨"PacketField", "putOut", "(LPacketField$Bytes;II)V"⟩, 11) := ⟨⟨by decide +kernel, by decide +kernel⟩, List.mem_of_getElem? (i := 16) (by decide +kernel), List.mem_of_getElem? (i := 536) (by decide +kernel), List.mem_of_getElem? (i := 537) (by decide +kernel)⟩
theorem lw_p2 : lw_okq (⟨"PacketField", "stationAt", "(I)LPacketField$Station;"⟩, 11) := ⟨⟨by decide +kernel, by decide +kernel⟩, List.mem_of_getElem? (i := 16) (by decide +kernel), List.mem_of_getElem? (i := 545) (by decide +kernel), List.mem_of_getElem? (i := 546) (by decide +kernel)⟩
theorem lw_p3 : lw_okq (⟨"PacketField", "linkAt", "(II)LPacketField$Link;"⟩, 11) := ⟨⟨by decide +kernel, by decide +kernel⟩, List.mem_of_getElem? (i := 16) (by decide +kernel), List.mem_of_getElem? (i := 574) (by decide +kernel), List.mem_of_getElem? (i := 575) (by decide +kernel)⟩
theorem lw_p4 : lw_okq (⟨"PacketField", "giveTape", "(LPacketField$Link;)I"⟩, 11) := ⟨⟨by decide +kernel, by decide +kernel⟩, List.mem_of_getElem? (i := 16) (by decide +kernel), List.mem_of_getElem? (i := 618) (by decide +kernel), List.mem_of_getElem? (i := 619) (by decide +kernel)⟩
theorem lw_p5 : lw_okq (⟨"PacketField", "drawForChannel", "()V"⟩, 11) := ⟨⟨by decide +kernel, by decide +kernel⟩, List.mem_of_getElem? (i := 16) (by decide +kernel), List.mem_of_getElem? (i := 698) (by decide +kernel), List.mem_of_getElem? (i := 699) (by decide +kernel)⟩
theorem lw_p6 : lw_okq (⟨"PacketField", "sendBits", "()V"⟩, 11) := ⟨⟨by decide +kernel, by decide +kernel⟩, List.mem_of_getElem? (i := 16) (by decide +kernel), List.mem_of_getElem? (i := 706) (by decide +kernel), List.mem_of_getElem? (i := 707) (by decide +kernel)⟩
theorem lw_p7 : lw_okq (⟨"PacketField", "sendNext", "(LPacketField$Station;)V"⟩, 11) := ⟨⟨by decide +kernel, by decide +kernel⟩, List.mem_of_getElem? (i := 16) (by decide +kernel), List.mem_of_getElem? (i := 710) (by decide +kernel), List.mem_of_getElem? (i := 711) (by decide +kernel)⟩
theorem lw_p8 : lw_okq (⟨"PacketField", "hearLevels", "()I"⟩, 11) := ⟨⟨by decide +kernel, by decide +kernel⟩, List.mem_of_getElem? (i := 16) (by decide +kernel), List.mem_of_getElem? (i := 718) (by decide +kernel), List.mem_of_getElem? (i := 719) (by decide +kernel)⟩
theorem lw_p9 : lw_okq (⟨"PacketField", "levelOf", "(LPacketField$Station;I)I"⟩, 11) := ⟨⟨by decide +kernel, by decide +kernel⟩, List.mem_of_getElem? (i := 16) (by decide +kernel), List.mem_of_getElem? (i := 723) (by decide +kernel), List.mem_of_getElem? (i := 724) (by decide +kernel)⟩
theorem lw_p10 : lw_okq (⟨"PacketField", "isStray", "(LPacketField$Bytes;I)Z"⟩, 11) := ⟨⟨by decide +kernel, by decide +kernel⟩, List.mem_of_getElem? (i := 16) (by decide +kernel), List.mem_of_getElem? (i := 738) (by decide +kernel), List.mem_of_getElem? (i := 739) (by decide +kernel)⟩
theorem lw_p11 : lw_okq (⟨"PacketField", "takeFrame", "(LPacketField$Station;)V"⟩, 11) := ⟨⟨by decide +kernel, by decide +kernel⟩, List.mem_of_getElem? (i := 16) (by decide +kernel), List.mem_of_getElem? (i := 746) (by decide +kernel), List.mem_of_getElem? (i := 747) (by decide +kernel)⟩
theorem lw_p12 : lw_okq (⟨"PacketField", "repeat", "(LPacketField$Station;LPacketField$Bytes;)V"⟩, 11) := ⟨⟨by decide +kernel, by decide +kernel⟩, List.mem_of_getElem? (i := 16) (by decide +kernel), List.mem_of_getElem? (i := 786) (by decide +kernel), List.mem_of_getElem? (i := 787) (by decide +kernel)⟩
theorem lw_p13 : lw_okq (⟨"PacketField", "takeSabm", "(LPacketField$Link;)V"⟩, 11) := ⟨⟨by decide +kernel, by decide +kernel⟩, List.mem_of_getElem? (i := 16) (by decide +kernel), List.mem_of_getElem? (i := 803) (by decide +kernel), List.mem_of_getElem? (i := 804) (by decide +kernel)⟩
theorem lw_p14 : lw_okq (⟨"PacketField", "answer", "(LPacketField$Station;I)V"⟩, 11) := ⟨⟨by decide +kernel, by decide +kernel⟩, List.mem_of_getElem? (i := 16) (by decide +kernel), List.mem_of_getElem? (i := 807) (by decide +kernel), List.mem_of_getElem? (i := 808) (by decide +kernel)⟩
theorem lw_p15 : lw_okq (⟨"PacketField", "takeWhileUp", "(LPacketField$Link;)V"⟩, 11) := ⟨⟨by decide +kernel, by decide +kernel⟩, List.mem_of_getElem? (i := 16) (by decide +kernel), List.mem_of_getElem? (i := 815) (by decide +kernel), List.mem_of_getElem? (i := 816) (by decide +kernel)⟩
def lw_privs_1 : List (MethodName × Nat) := [(⟨"PacketField", "putLevels", "()V"⟩, 11), (⟨"PacketField", "putOut", "(LPacketField$Bytes;II)V"⟩, 11), (⟨"PacketField", "stationAt", "(I)LPacketField$Station;"⟩, 11), (⟨"PacketField", "linkAt", "(II)LPacketField$Link;"⟩, 11), (⟨"PacketField", "giveTape", "(LPacketField$Link;)I"⟩, 11), (⟨"PacketField", "drawForChannel", "()V"⟩, 11), (⟨"PacketField", "sendBits", "()V"⟩, 11), (⟨"PacketField", "sendNext", "(LPacketField$Station;)V"⟩, 11), (⟨"PacketField", "hearLevels", "()I"⟩, 11), (⟨"PacketField", "levelOf", "(LPacketField$Station;I)I"⟩, 11), (⟨"PacketField", "isStray", "(LPacketField$Bytes;I)Z"⟩, 11), (⟨"PacketField", "takeFrame", "(LPacketField$Station;)V"⟩, 11), (⟨"PacketField", "repeat", "(LPacketField$Station;LPacketField$Bytes;)V"⟩, 11), (⟨"PacketField", "takeSabm", "(LPacketField$Link;)V"⟩, 11), (⟨"PacketField", "answer", "(LPacketField$Station;I)V"⟩, 11), (⟨"PacketField", "takeWhileUp", "(LPacketField$Link;)V"⟩, 11)]
theorem lw_r1 : ∀ q ∈ lw_privs_1, lw_okq q := List.forall_mem_cons.mpr ⟨lw_p0, List.forall_mem_cons.mpr ⟨lw_p1, List.forall_mem_cons.mpr ⟨lw_p2, List.forall_mem_cons.mpr ⟨lw_p3, List.forall_mem_cons.mpr ⟨lw_p4, List.forall_mem_cons.mpr ⟨lw_p5, List.forall_mem_cons.mpr ⟨lw_p6, List.forall_mem_cons.mpr ⟨lw_p7, List.forall_mem_cons.mpr ⟨lw_p8, List.forall_mem_cons.mpr ⟨lw_p9, List.forall_mem_cons.mpr ⟨lw_p10, List.forall_mem_cons.mpr ⟨lw_p11, List.forall_mem_cons.mpr ⟨lw_p12, List.forall_mem_cons.mpr ⟨lw_p13, List.forall_mem_cons.mpr ⟨lw_p14, List.forall_mem_cons.mpr ⟨lw_p15, fun _ h => absurd h List.not_mem_nil⟩⟩⟩⟩⟩⟩⟩⟩⟩⟩⟩⟩⟩⟩⟩⟩
theorem lw_p16 : lw_okq (⟨"PacketField", "acknowledge", "(LPacketField$Link;)Z"⟩, 11) := ⟨⟨by decide +kernel, by decide +kernel⟩, List.mem_of_getElem? (i := 16) (by decide +kernel), List.mem_of_getElem? (i := 824) (by decide +kernel), List.mem_of_getElem? (i := 825) (by decide +kernel)⟩
theorem lw_p17 : lw_okq (⟨"PacketField", "takeInformation", "(LPacketField$Link;)V"⟩, 11) := ⟨⟨by decide +kernel, by decide +kernel⟩, List.mem_of_getElem? (i := 16) (by decide +kernel), List.mem_of_getElem? (i := 828) (by decide +kernel), List.mem_of_getElem? (i := 829) (by decide +kernel)⟩
theorem lw_p18 : lw_okq (⟨"PacketField", "takeSupervision", "(LPacketField$Link;)V"⟩, 11) := ⟨⟨by decide +kernel, by decide +kernel⟩, List.mem_of_getElem? (i := 16) (by decide +kernel), List.mem_of_getElem? (i := 832) (by decide +kernel), List.mem_of_getElem? (i := 833) (by decide +kernel)⟩
theorem lw_p19 : lw_okq (⟨"PacketField", "takeWhileWaiting", "(LPacketField$Link;)V"⟩, 11) := ⟨⟨by decide +kernel, by decide +kernel⟩, List.mem_of_getElem? (i := 16) (by decide +kernel), List.mem_of_getElem? (i := 842) (by decide +kernel), List.mem_of_getElem? (i := 843) (by decide +kernel)⟩
theorem lw_p20 : lw_okq (⟨"PacketField", "turnClocks", "()V"⟩, 11) := ⟨⟨by decide +kernel, by decide +kernel⟩, List.mem_of_getElem? (i := 16) (by decide +kernel), List.mem_of_getElem? (i := 847) (by decide +kernel), List.mem_of_getElem? (i := 848) (by decide +kernel)⟩
theorem lw_p21 : lw_okq (⟨"PacketField", "tellRoutesInTime", "()V"⟩, 11) := ⟨⟨by decide +kernel, by decide +kernel⟩, List.mem_of_getElem? (i := 16) (by decide +kernel), List.mem_of_getElem? (i := 854) (by decide +kernel), List.mem_of_getElem? (i := 855) (by decide +kernel)⟩
theorem lw_p22 : lw_okq (⟨"PacketField", "sayWhatMayBeSaid", "()V"⟩, 11) := ⟨⟨by decide +kernel, by decide +kernel⟩, List.mem_of_getElem? (i := 16) (by decide +kernel), List.mem_of_getElem? (i := 858) (by decide +kernel), List.mem_of_getElem? (i := 859) (by decide +kernel)⟩
theorem lw_p23 : lw_okq (⟨"PacketFieldModel", "lay", "(I)V"⟩, 81) := ⟨⟨by decide +kernel, by decide +kernel⟩, List.mem_of_getElem? (i := 901) (by decide +kernel), List.mem_of_getElem? (i := 1156) (by decide +kernel), List.mem_of_getElem? (i := 1157) (by decide +kernel)⟩
theorem lw_p24 : lw_okq (⟨"PacketFieldModel", "makeFlag", "()V"⟩, 81) := ⟨⟨by decide +kernel, by decide +kernel⟩, List.mem_of_getElem? (i := 901) (by decide +kernel), List.mem_of_getElem? (i := 1175) (by decide +kernel), List.mem_of_getElem? (i := 1176) (by decide +kernel)⟩
theorem lw_p25 : lw_okq (⟨"PacketFieldModel", "makeFrame", "([III)V"⟩, 81) := ⟨⟨by decide +kernel, by decide +kernel⟩, List.mem_of_getElem? (i := 901) (by decide +kernel), List.mem_of_getElem? (i := 1179) (by decide +kernel), List.mem_of_getElem? (i := 1180) (by decide +kernel)⟩
theorem lw_p26 : lw_okq (⟨"PacketFieldModel", "makeByte", "(I)V"⟩, 81) := ⟨⟨by decide +kernel, by decide +kernel⟩, List.mem_of_getElem? (i := 901) (by decide +kernel), List.mem_of_getElem? (i := 1183) (by decide +kernel), List.mem_of_getElem? (i := 1184) (by decide +kernel)⟩
theorem lw_p27 : lw_okq (⟨"PacketFieldModel", "makeBit", "(I)V"⟩, 81) := ⟨⟨by decide +kernel, by decide +kernel⟩, List.mem_of_getElem? (i := 901) (by decide +kernel), List.mem_of_getElem? (i := 1187) (by decide +kernel), List.mem_of_getElem? (i := 1188) (by decide +kernel)⟩
theorem lw_p28 : lw_okq (⟨"PacketFieldModel", "hear", "(II)Z"⟩, 81) := ⟨⟨by decide +kernel, by decide +kernel⟩, List.mem_of_getElem? (i := 901) (by decide +kernel), List.mem_of_getElem? (i := 1200) (by decide +kernel), List.mem_of_getElem? (i := 1201) (by decide +kernel)⟩
theorem lw_p29 : lw_okq (⟨"PacketFieldModel", "comes", "(II)V"⟩, 81) := ⟨⟨by decide +kernel, by decide +kernel⟩, List.mem_of_getElem? (i := 901) (by decide +kernel), List.mem_of_getElem? (i := 1204) (by decide +kernel), List.mem_of_getElem? (i := 1205) (by decide +kernel)⟩
theorem lw_p30 : lw_okq (⟨"PacketFieldModel", "isFrame", "(I)Z"⟩, 81) := ⟨⟨by decide +kernel, by decide +kernel⟩, List.mem_of_getElem? (i := 901) (by decide +kernel), List.mem_of_getElem? (i := 1208) (by decide +kernel), List.mem_of_getElem? (i := 1209) (by decide +kernel)⟩
theorem lw_p31 : lw_okq (⟨"PacketFieldModel", "put", "(I)V"⟩, 81) := ⟨⟨by decide +kernel, by decide +kernel⟩, List.mem_of_getElem? (i := 901) (by decide +kernel), List.mem_of_getElem? (i := 1233) (by decide +kernel), List.mem_of_getElem? (i := 1234) (by decide +kernel)⟩
def lw_privs_2 : List (MethodName × Nat) := [(⟨"PacketField", "acknowledge", "(LPacketField$Link;)Z"⟩, 11), (⟨"PacketField", "takeInformation", "(LPacketField$Link;)V"⟩, 11), (⟨"PacketField", "takeSupervision", "(LPacketField$Link;)V"⟩, 11), (⟨"PacketField", "takeWhileWaiting", "(LPacketField$Link;)V"⟩, 11), (⟨"PacketField", "turnClocks", "()V"⟩, 11), (⟨"PacketField", "tellRoutesInTime", "()V"⟩, 11), (⟨"PacketField", "sayWhatMayBeSaid", "()V"⟩, 11), (⟨"PacketFieldModel", "lay", "(I)V"⟩, 81), (⟨"PacketFieldModel", "makeFlag", "()V"⟩, 81), (⟨"PacketFieldModel", "makeFrame", "([III)V"⟩, 81), (⟨"PacketFieldModel", "makeByte", "(I)V"⟩, 81), (⟨"PacketFieldModel", "makeBit", "(I)V"⟩, 81), (⟨"PacketFieldModel", "hear", "(II)Z"⟩, 81), (⟨"PacketFieldModel", "comes", "(II)V"⟩, 81), (⟨"PacketFieldModel", "isFrame", "(I)Z"⟩, 81), (⟨"PacketFieldModel", "put", "(I)V"⟩, 81)]
theorem lw_r2 : ∀ q ∈ lw_privs_2, lw_okq q := List.forall_mem_cons.mpr ⟨lw_p16, List.forall_mem_cons.mpr ⟨lw_p17, List.forall_mem_cons.mpr ⟨lw_p18, List.forall_mem_cons.mpr ⟨lw_p19, List.forall_mem_cons.mpr ⟨lw_p20, List.forall_mem_cons.mpr ⟨lw_p21, List.forall_mem_cons.mpr ⟨lw_p22, List.forall_mem_cons.mpr ⟨lw_p23, List.forall_mem_cons.mpr ⟨lw_p24, List.forall_mem_cons.mpr ⟨lw_p25, List.forall_mem_cons.mpr ⟨lw_p26, List.forall_mem_cons.mpr ⟨lw_p27, List.forall_mem_cons.mpr ⟨lw_p28, List.forall_mem_cons.mpr ⟨lw_p29, List.forall_mem_cons.mpr ⟨lw_p30, List.forall_mem_cons.mpr ⟨lw_p31, fun _ h => absurd h List.not_mem_nil⟩⟩⟩⟩⟩⟩⟩⟩⟩⟩⟩⟩⟩⟩⟩⟩
theorem lw_p32 : lw_okq (⟨"PacketFieldModel", "enqueue", "(I)V"⟩, 81) := ⟨⟨by decide +kernel, by decide +kernel⟩, List.mem_of_getElem? (i := 901) (by decide +kernel), List.mem_of_getElem? (i := 1237) (by decide +kernel), List.mem_of_getElem? (i := 1238) (by decide +kernel)⟩
theorem lw_p33 : lw_okq (⟨"PacketFieldModel", "count", "(II)V"⟩, 81) := ⟨⟨by decide +kernel, by decide +kernel⟩, List.mem_of_getElem? (i := 901) (by decide +kernel), List.mem_of_getElem? (i := 1241) (by decide +kernel), List.mem_of_getElem? (i := 1242) (by decide +kernel)⟩
theorem lw_p34 : lw_okq (⟨"PacketFieldModel", "tick", "()I"⟩, 81) := ⟨⟨by decide +kernel, by decide +kernel⟩, List.mem_of_getElem? (i := 901) (by decide +kernel), List.mem_of_getElem? (i := 1253) (by decide +kernel), List.mem_of_getElem? (i := 1254) (by decide +kernel)⟩
theorem lw_p35 : lw_okq (⟨"PacketFieldModel", "draws", "(I)V"⟩, 81) := ⟨⟨by decide +kernel, by decide +kernel⟩, List.mem_of_getElem? (i := 901) (by decide +kernel), List.mem_of_getElem? (i := 1257) (by decide +kernel), List.mem_of_getElem? (i := 1258) (by decide +kernel)⟩
theorem lw_p36 : lw_okq (⟨"PacketFieldModel", "lineIs", "(I)V"⟩, 81) := ⟨⟨by decide +kernel, by decide +kernel⟩, List.mem_of_getElem? (i := 901) (by decide +kernel), List.mem_of_getElem? (i := 1262) (by decide +kernel), List.mem_of_getElem? (i := 1263) (by decide +kernel)⟩
theorem lw_p37 : lw_okq (⟨"PacketFieldModel", "sends", "(I)V"⟩, 81) := ⟨⟨by decide +kernel, by decide +kernel⟩, List.mem_of_getElem? (i := 901) (by decide +kernel), List.mem_of_getElem? (i := 1266) (by decide +kernel), List.mem_of_getElem? (i := 1267) (by decide +kernel)⟩
theorem lw_p38 : lw_okq (⟨"PacketFieldModel", "takesFrame", "(I)V"⟩, 81) := ⟨⟨by decide +kernel, by decide +kernel⟩, List.mem_of_getElem? (i := 901) (by decide +kernel), List.mem_of_getElem? (i := 1270) (by decide +kernel), List.mem_of_getElem? (i := 1271) (by decide +kernel)⟩
theorem lw_p39 : lw_okq (⟨"PacketFieldModel", "listens", "(I)Z"⟩, 81) := ⟨⟨by decide +kernel, by decide +kernel⟩, List.mem_of_getElem? (i := 901) (by decide +kernel), List.mem_of_getElem? (i := 1274) (by decide +kernel), List.mem_of_getElem? (i := 1275) (by decide +kernel)⟩
theorem lw_p40 : lw_okq (⟨"PacketFieldModel", "hearNothing", "(I)V"⟩, 81) := ⟨⟨by decide +kernel, by decide +kernel⟩, List.mem_of_getElem? (i := 901) (by decide +kernel), List.mem_of_getElem? (i := 1278) (by decide +kernel), List.mem_of_getElem? (i := 1279) (by decide +kernel)⟩
theorem lw_p41 : lw_okq (⟨"PacketFieldModel", "isStray", "(I)Z"⟩, 81) := ⟨⟨by decide +kernel, by decide +kernel⟩, List.mem_of_getElem? (i := 901) (by decide +kernel), List.mem_of_getElem? (i := 1287) (by decide +kernel), List.mem_of_getElem? (i := 1288) (by decide +kernel)⟩
theorem lw_p42 : lw_okq (⟨"PacketFieldModel", "taken", "(I)V"⟩, 81) := ⟨⟨by decide +kernel, by decide +kernel⟩, List.mem_of_getElem? (i := 901) (by decide +kernel), List.mem_of_getElem? (i := 1291) (by decide +kernel), List.mem_of_getElem? (i := 1292) (by decide +kernel)⟩
theorem lw_p43 : lw_okq (⟨"PacketFieldModel", "isRight", "()Z"⟩, 81) := ⟨⟨by decide +kernel, by decide +kernel⟩, List.mem_of_getElem? (i := 901) (by decide +kernel), List.mem_of_getElem? (i := 1295) (by decide +kernel), List.mem_of_getElem? (i := 1296) (by decide +kernel)⟩
theorem lw_p44 : lw_okq (⟨"PacketFieldModel", "hasAddresses", "()Z"⟩, 81) := ⟨⟨by decide +kernel, by decide +kernel⟩, List.mem_of_getElem? (i := 901) (by decide +kernel), List.mem_of_getElem? (i := 1299) (by decide +kernel), List.mem_of_getElem? (i := 1300) (by decide +kernel)⟩
theorem lw_p45 : lw_okq (⟨"PacketFieldModel", "addressAt", "(I)I"⟩, 81) := ⟨⟨by decide +kernel, by decide +kernel⟩, List.mem_of_getElem? (i := 901) (by decide +kernel), List.mem_of_getElem? (i := 1303) (by decide +kernel), List.mem_of_getElem? (i := 1304) (by decide +kernel)⟩
theorem lw_p46 : lw_okq (⟨"PacketFieldModel", "hasRoutes", "()Z"⟩, 81) := ⟨⟨by decide +kernel, by decide +kernel⟩, List.mem_of_getElem? (i := 901) (by decide +kernel), List.mem_of_getElem? (i := 1310) (by decide +kernel), List.mem_of_getElem? (i := 1311) (by decide +kernel)⟩
theorem lw_p47 : lw_okq (⟨"PacketFieldModel", "areUnlike", "()Z"⟩, 81) := ⟨⟨by decide +kernel, by decide +kernel⟩, List.mem_of_getElem? (i := 901) (by decide +kernel), List.mem_of_getElem? (i := 1314) (by decide +kernel), List.mem_of_getElem? (i := 1315) (by decide +kernel)⟩
def lw_privs_3 : List (MethodName × Nat) := [(⟨"PacketFieldModel", "enqueue", "(I)V"⟩, 81), (⟨"PacketFieldModel", "count", "(II)V"⟩, 81), (⟨"PacketFieldModel", "tick", "()I"⟩, 81), (⟨"PacketFieldModel", "draws", "(I)V"⟩, 81), (⟨"PacketFieldModel", "lineIs", "(I)V"⟩, 81), (⟨"PacketFieldModel", "sends", "(I)V"⟩, 81), (⟨"PacketFieldModel", "takesFrame", "(I)V"⟩, 81), (⟨"PacketFieldModel", "listens", "(I)Z"⟩, 81), (⟨"PacketFieldModel", "hearNothing", "(I)V"⟩, 81), (⟨"PacketFieldModel", "isStray", "(I)Z"⟩, 81), (⟨"PacketFieldModel", "taken", "(I)V"⟩, 81), (⟨"PacketFieldModel", "isRight", "()Z"⟩, 81), (⟨"PacketFieldModel", "hasAddresses", "()Z"⟩, 81), (⟨"PacketFieldModel", "addressAt", "(I)I"⟩, 81), (⟨"PacketFieldModel", "hasRoutes", "()Z"⟩, 81), (⟨"PacketFieldModel", "areUnlike", "()Z"⟩, 81)]
theorem lw_r3 : ∀ q ∈ lw_privs_3, lw_okq q := List.forall_mem_cons.mpr ⟨lw_p32, List.forall_mem_cons.mpr ⟨lw_p33, List.forall_mem_cons.mpr ⟨lw_p34, List.forall_mem_cons.mpr ⟨lw_p35, List.forall_mem_cons.mpr ⟨lw_p36, List.forall_mem_cons.mpr ⟨lw_p37, List.forall_mem_cons.mpr ⟨lw_p38, List.forall_mem_cons.mpr ⟨lw_p39, List.forall_mem_cons.mpr ⟨lw_p40, List.forall_mem_cons.mpr ⟨lw_p41, List.forall_mem_cons.mpr ⟨lw_p42, List.forall_mem_cons.mpr ⟨lw_p43, List.forall_mem_cons.mpr ⟨lw_p44, List.forall_mem_cons.mpr ⟨lw_p45, List.forall_mem_cons.mpr ⟨lw_p46, List.forall_mem_cons.mpr ⟨lw_p47, fun _ h => absurd h List.not_mem_nil⟩⟩⟩⟩⟩⟩⟩⟩⟩⟩⟩⟩⟩⟩⟩⟩
theorem lw_p48 : lw_okq (⟨"PacketFieldModel", "learns", "(I)V"⟩, 81) := ⟨⟨by decide +kernel, by decide +kernel⟩, List.mem_of_getElem? (i := 901) (by decide +kernel), List.mem_of_getElem? (i := 1321) (by decide +kernel), List.mem_of_getElem? (i := 1322) (by decide +kernel)⟩
theorem lw_p49 : lw_okq (⟨"PacketFieldModel", "learn", "(IIII)V"⟩, 81) := ⟨⟨by decide +kernel, by decide +kernel⟩, List.mem_of_getElem? (i := 901) (by decide +kernel), List.mem_of_getElem? (i := 1325) (by decide +kernel), List.mem_of_getElem? (i := 1326) (by decide +kernel)⟩
theorem lw_p50 : lw_okq (⟨"PacketFieldModel", "answers", "(I)V"⟩, 81) := ⟨⟨by decide +kernel, by decide +kernel⟩, List.mem_of_getElem? (i := 901) (by decide +kernel), List.mem_of_getElem? (i := 1329) (by decide +kernel), List.mem_of_getElem? (i := 1330) (by decide +kernel)⟩
theorem lw_p51 : lw_okq (⟨"PacketFieldModel", "comesUp", "(II)V"⟩, 81) := ⟨⟨by decide +kernel, by decide +kernel⟩, List.mem_of_getElem? (i := 901) (by decide +kernel), List.mem_of_getElem? (i := 1333) (by decide +kernel), List.mem_of_getElem? (i := 1334) (by decide +kernel)⟩
theorem lw_p52 : lw_okq (⟨"PacketFieldModel", "answer", "(II)V"⟩, 81) := ⟨⟨by decide +kernel, by decide +kernel⟩, List.mem_of_getElem? (i := 901) (by decide +kernel), List.mem_of_getElem? (i := 1337) (by decide +kernel), List.mem_of_getElem? (i := 1338) (by decide +kernel)⟩
theorem lw_p53 : lw_okq (⟨"PacketFieldModel", "begin", "(IIIIZ)V"⟩, 81) := ⟨⟨by decide +kernel, by decide +kernel⟩, List.mem_of_getElem? (i := 901) (by decide +kernel), List.mem_of_getElem? (i := 1341) (by decide +kernel), List.mem_of_getElem? (i := 1342) (by decide +kernel)⟩
theorem lw_p54 : lw_okq (⟨"PacketFieldModel", "address", "(II)V"⟩, 81) := ⟨⟨by decide +kernel, by decide +kernel⟩, List.mem_of_getElem? (i := 901) (by decide +kernel), List.mem_of_getElem? (i := 1345) (by decide +kernel), List.mem_of_getElem? (i := 1346) (by decide +kernel)⟩
theorem lw_p55 : lw_okq (⟨"PacketFieldModel", "clear", "(I)V"⟩, 81) := ⟨⟨by decide +kernel, by decide +kernel⟩, List.mem_of_getElem? (i := 901) (by decide +kernel), List.mem_of_getElem? (i := 1349) (by decide +kernel), List.mem_of_getElem? (i := 1350) (by decide +kernel)⟩
theorem lw_p56 : lw_okq (⟨"PacketFieldModel", "reset", "(I)V"⟩, 81) := ⟨⟨by decide +kernel, by decide +kernel⟩, List.mem_of_getElem? (i := 901) (by decide +kernel), List.mem_of_getElem? (i := 1353) (by decide +kernel), List.mem_of_getElem? (i := 1354) (by decide +kernel)⟩
theorem lw_p57 : lw_okq (⟨"PacketFieldModel", "goDown", "(I)V"⟩, 81) := ⟨⟨by decide +kernel, by decide +kernel⟩, List.mem_of_getElem? (i := 901) (by decide +kernel), List.mem_of_getElem? (i := 1357) (by decide +kernel), List.mem_of_getElem? (i := 1358) (by decide +kernel)⟩
theorem lw_p58 : lw_okq (⟨"PacketFieldModel", "say", "(IIZI)V"⟩, 81) := ⟨⟨by decide +kernel, by decide +kernel⟩, List.mem_of_getElem? (i := 901) (by decide +kernel), List.mem_of_getElem? (i := 1361) (by decide +kernel), List.mem_of_getElem? (i := 1362) (by decide +kernel)⟩
theorem lw_p59 : lw_okq (⟨"PacketFieldModel", "numbered", "(III)V"⟩, 81) := ⟨⟨by decide +kernel, by decide +kernel⟩, List.mem_of_getElem? (i := 901) (by decide +kernel), List.mem_of_getElem? (i := 1365) (by decide +kernel), List.mem_of_getElem? (i := 1366) (by decide +kernel)⟩
theorem lw_p60 : lw_okq (⟨"PacketFieldModel", "told", "(III)V"⟩, 81) := ⟨⟨by decide +kernel, by decide +kernel⟩, List.mem_of_getElem? (i := 901) (by decide +kernel), List.mem_of_getElem? (i := 1369) (by decide +kernel), List.mem_of_getElem? (i := 1370) (by decide +kernel)⟩
theorem lw_p61 : lw_okq (⟨"PacketFieldModel", "sayNumber", "(IIZIZ)V"⟩, 81) := ⟨⟨by decide +kernel, by decide +kernel⟩, List.mem_of_getElem? (i := 901) (by decide +kernel), List.mem_of_getElem? (i := 1373) (by decide +kernel), List.mem_of_getElem? (i := 1374) (by decide +kernel)⟩
theorem lw_p62 : lw_okq (⟨"PacketFieldModel", "isBusy", "(I)Z"⟩, 81) := ⟨⟨by decide +kernel, by decide +kernel⟩, List.mem_of_getElem? (i := 901) (by decide +kernel), List.mem_of_getElem? (i := 1377) (by decide +kernel), List.mem_of_getElem? (i := 1378) (by decide +kernel)⟩
theorem lw_p63 : lw_okq (⟨"PacketFieldModel", "packetComes", "(I)V"⟩, 81) := ⟨⟨by decide +kernel, by decide +kernel⟩, List.mem_of_getElem? (i := 901) (by decide +kernel), List.mem_of_getElem? (i := 1381) (by decide +kernel), List.mem_of_getElem? (i := 1382) (by decide +kernel)⟩
def lw_privs_4 : List (MethodName × Nat) := [(⟨"PacketFieldModel", "learns", "(I)V"⟩, 81), (⟨"PacketFieldModel", "learn", "(IIII)V"⟩, 81), (⟨"PacketFieldModel", "answers", "(I)V"⟩, 81), (⟨"PacketFieldModel", "comesUp", "(II)V"⟩, 81), (⟨"PacketFieldModel", "answer", "(II)V"⟩, 81), (⟨"PacketFieldModel", "begin", "(IIIIZ)V"⟩, 81), (⟨"PacketFieldModel", "address", "(II)V"⟩, 81), (⟨"PacketFieldModel", "clear", "(I)V"⟩, 81), (⟨"PacketFieldModel", "reset", "(I)V"⟩, 81), (⟨"PacketFieldModel", "goDown", "(I)V"⟩, 81), (⟨"PacketFieldModel", "say", "(IIZI)V"⟩, 81), (⟨"PacketFieldModel", "numbered", "(III)V"⟩, 81), (⟨"PacketFieldModel", "told", "(III)V"⟩, 81), (⟨"PacketFieldModel", "sayNumber", "(IIZIZ)V"⟩, 81), (⟨"PacketFieldModel", "isBusy", "(I)Z"⟩, 81), (⟨"PacketFieldModel", "packetComes", "(I)V"⟩, 81)]
theorem lw_r4 : ∀ q ∈ lw_privs_4, lw_okq q := List.forall_mem_cons.mpr ⟨lw_p48, List.forall_mem_cons.mpr ⟨lw_p49, List.forall_mem_cons.mpr ⟨lw_p50, List.forall_mem_cons.mpr ⟨lw_p51, List.forall_mem_cons.mpr ⟨lw_p52, List.forall_mem_cons.mpr ⟨lw_p53, List.forall_mem_cons.mpr ⟨lw_p54, List.forall_mem_cons.mpr ⟨lw_p55, List.forall_mem_cons.mpr ⟨lw_p56, List.forall_mem_cons.mpr ⟨lw_p57, List.forall_mem_cons.mpr ⟨lw_p58, List.forall_mem_cons.mpr ⟨lw_p59, List.forall_mem_cons.mpr ⟨lw_p60, List.forall_mem_cons.mpr ⟨lw_p61, List.forall_mem_cons.mpr ⟨lw_p62, List.forall_mem_cons.mpr ⟨lw_p63, fun _ h => absurd h List.not_mem_nil⟩⟩⟩⟩⟩⟩⟩⟩⟩⟩⟩⟩⟩⟩⟩⟩
theorem lw_p64 : lw_okq (⟨"PacketFieldModel", "keepLetter", "(I)V"⟩, 81) := ⟨⟨by decide +kernel, by decide +kernel⟩, List.mem_of_getElem? (i := 901) (by decide +kernel), List.mem_of_getElem? (i := 1385) (by decide +kernel), List.mem_of_getElem? (i := 1386) (by decide +kernel)⟩
theorem lw_p65 : lw_okq (⟨"PacketFieldModel", "bestTo", "(II)I"⟩, 81) := ⟨⟨by decide +kernel, by decide +kernel⟩, List.mem_of_getElem? (i := 901) (by decide +kernel), List.mem_of_getElem? (i := 1389) (by decide +kernel), List.mem_of_getElem? (i := 1390) (by decide +kernel)⟩
theorem lw_p66 : lw_okq (⟨"PacketFieldModel", "called", "(II)V"⟩, 81) := ⟨⟨by decide +kernel, by decide +kernel⟩, List.mem_of_getElem? (i := 901) (by decide +kernel), List.mem_of_getElem? (i := 1393) (by decide +kernel), List.mem_of_getElem? (i := 1394) (by decide +kernel)⟩
theorem lw_p67 : lw_okq (⟨"PacketFieldModel", "ready", "(I)I"⟩, 81) := ⟨⟨by decide +kernel, by decide +kernel⟩, List.mem_of_getElem? (i := 901) (by decide +kernel), List.mem_of_getElem? (i := 1397) (by decide +kernel), List.mem_of_getElem? (i := 1398) (by decide +kernel)⟩
theorem lw_p68 : lw_okq (⟨"PacketFieldModel", "supervised", "(IIII)V"⟩, 81) := ⟨⟨by decide +kernel, by decide +kernel⟩, List.mem_of_getElem? (i := 901) (by decide +kernel), List.mem_of_getElem? (i := 1401) (by decide +kernel), List.mem_of_getElem? (i := 1402) (by decide +kernel)⟩
theorem lw_p69 : lw_okq (⟨"PacketFieldModel", "again", "(II)V"⟩, 81) := ⟨⟨by decide +kernel, by decide +kernel⟩, List.mem_of_getElem? (i := 901) (by decide +kernel), List.mem_of_getElem? (i := 1405) (by decide +kernel), List.mem_of_getElem? (i := 1406) (by decide +kernel)⟩
theorem lw_p70 : lw_okq (⟨"PacketFieldModel", "sayAgain", "(III)V"⟩, 81) := ⟨⟨by decide +kernel, by decide +kernel⟩, List.mem_of_getElem? (i := 901) (by decide +kernel), List.mem_of_getElem? (i := 1409) (by decide +kernel), List.mem_of_getElem? (i := 1410) (by decide +kernel)⟩
theorem lw_p71 : lw_okq (⟨"PacketFieldModel", "clockGoes", "(II)V"⟩, 81) := ⟨⟨by decide +kernel, by decide +kernel⟩, List.mem_of_getElem? (i := 901) (by decide +kernel), List.mem_of_getElem? (i := 1413) (by decide +kernel), List.mem_of_getElem? (i := 1414) (by decide +kernel)⟩
theorem lw_p72 : lw_okq (⟨"PacketFieldModel", "tells", "(I)I"⟩, 81) := ⟨⟨by decide +kernel, by decide +kernel⟩, List.mem_of_getElem? (i := 901) (by decide +kernel), List.mem_of_getElem? (i := 1417) (by decide +kernel), List.mem_of_getElem? (i := 1418) (by decide +kernel)⟩
theorem lw_p73 : lw_okq (⟨"PacketFieldModel", "maySay", "(II)V"⟩, 81) := ⟨⟨by decide +kernel, by decide +kernel⟩, List.mem_of_getElem? (i := 901) (by decide +kernel), List.mem_of_getElem? (i := 1421) (by decide +kernel), List.mem_of_getElem? (i := 1422) (by decide +kernel)⟩
theorem lw_p74 : lw_okq (⟨"PacketFieldModel", "dropPacket", "(I)V"⟩, 81) := ⟨⟨by decide +kernel, by decide +kernel⟩, List.mem_of_getElem? (i := 901) (by decide +kernel), List.mem_of_getElem? (i := 1425) (by decide +kernel), List.mem_of_getElem? (i := 1426) (by decide +kernel)⟩
theorem lw_p75 : lw_okq (⟨"PacketFieldModel", "dropOut", "(II)V"⟩, 81) := ⟨⟨by decide +kernel, by decide +kernel⟩, List.mem_of_getElem? (i := 901) (by decide +kernel), List.mem_of_getElem? (i := 1429) (by decide +kernel), List.mem_of_getElem? (i := 1430) (by decide +kernel)⟩
def lw_privs_5 : List (MethodName × Nat) := [(⟨"PacketFieldModel", "keepLetter", "(I)V"⟩, 81), (⟨"PacketFieldModel", "bestTo", "(II)I"⟩, 81), (⟨"PacketFieldModel", "called", "(II)V"⟩, 81), (⟨"PacketFieldModel", "ready", "(I)I"⟩, 81), (⟨"PacketFieldModel", "supervised", "(IIII)V"⟩, 81), (⟨"PacketFieldModel", "again", "(II)V"⟩, 81), (⟨"PacketFieldModel", "sayAgain", "(III)V"⟩, 81), (⟨"PacketFieldModel", "clockGoes", "(II)V"⟩, 81), (⟨"PacketFieldModel", "tells", "(I)I"⟩, 81), (⟨"PacketFieldModel", "maySay", "(II)V"⟩, 81), (⟨"PacketFieldModel", "dropPacket", "(I)V"⟩, 81), (⟨"PacketFieldModel", "dropOut", "(II)V"⟩, 81)]
theorem lw_r5 : ∀ q ∈ lw_privs_5, lw_okq q := List.forall_mem_cons.mpr ⟨lw_p64, List.forall_mem_cons.mpr ⟨lw_p65, List.forall_mem_cons.mpr ⟨lw_p66, List.forall_mem_cons.mpr ⟨lw_p67, List.forall_mem_cons.mpr ⟨lw_p68, List.forall_mem_cons.mpr ⟨lw_p69, List.forall_mem_cons.mpr ⟨lw_p70, List.forall_mem_cons.mpr ⟨lw_p71, List.forall_mem_cons.mpr ⟨lw_p72, List.forall_mem_cons.mpr ⟨lw_p73, List.forall_mem_cons.mpr ⟨lw_p74, List.forall_mem_cons.mpr ⟨lw_p75, fun _ h => absurd h List.not_mem_nil⟩⟩⟩⟩⟩⟩⟩⟩⟩⟩⟩⟩
def lw_privs : List (MethodName × Nat) := lw_privs_1 ++ (lw_privs_2 ++ (lw_privs_3 ++ (lw_privs_4 ++ (lw_privs_5))))
def lw_tbl : List Cond := k2_sels lw_privs ++ tables_1
theorem lw_privs_ok : ∀ q ∈ lw_privs, lw_okq q := by
  show ∀ q ∈ lw_privs_1 ++ (lw_privs_2 ++ (lw_privs_3 ++ (lw_privs_4 ++ (lw_privs_5)))), lw_okq q
  exact List.forall_mem_append.mpr ⟨lw_r1, List.forall_mem_append.mpr ⟨lw_r2, List.forall_mem_append.mpr ⟨lw_r3, List.forall_mem_append.mpr ⟨lw_r4, lw_r5⟩⟩⟩⟩

def RX0 : String := "PacketField$Bytes"
def TX0 : u_T := fun k => match k with
  | 0 => ("PacketField$Bytes", "cells", "[I", true)
  | _ => ("PacketField$Bytes", "size", "I", false)
def tyX0 : Nat → FieldType := fun k => match k with
  | 0 => .array .int
  | _ => .int
theorem nmX0 : ∀ a, a < 2 → ∀ b, b < 2 → a ≠ b → (TX0 a).2.1 ≠ (TX0 b).2.1 := by decide +kernel
theorem tyX0_ok : ∀ k, k < 2 → parseFieldDescriptor (TX0 k).2.2.1 = some (tyX0 k) := by decide +kernel
def RX1 : String := "PacketField$Frame"
def TX1 : u_T := fun k => match k with
  | 0 => ("PacketField$Frame", "to", "I", false)
  | 1 => ("PacketField$Frame", "from", "I", false)
  | 2 => ("PacketField$Frame", "addresses", "I", false)
  | 3 => ("PacketField$Frame", "nextVia", "I", false)
  | 4 => ("PacketField$Frame", "command", "Z", false)
  | 5 => ("PacketField$Frame", "kind", "I", false)
  | 6 => ("PacketField$Frame", "pollBit", "I", false)
  | 7 => ("PacketField$Frame", "\x72", "I", false)
  | 8 => ("PacketField$Frame", "t", "I", false)
  | 9 => ("PacketField$Frame", "content", "I", false)
  | 10 => ("PacketField$Frame", "start", "I", false)
  | _ => ("PacketField$Frame", "answer", "LPacketField$Path;", true)
def tyX1 : Nat → FieldType := fun k => match k with
  | 0 => .int
  | 1 => .int
  | 2 => .int
  | 3 => .int
  | 4 => .boolean
  | 5 => .int
  | 6 => .int
  | 7 => .int
  | 8 => .int
  | 9 => .int
  | 10 => .int
  | _ => .object "PacketField$Path"
theorem nmX1 : ∀ a, a < 12 → ∀ b, b < 12 → a ≠ b → (TX1 a).2.1 ≠ (TX1 b).2.1 := by decide +kernel
theorem tyX1_ok : ∀ k, k < 12 → parseFieldDescriptor (TX1 k).2.2.1 = some (tyX1 k) := by decide +kernel
def RX2 : String := "PacketField$Link"
def TX2 : u_T := fun k => match k with
  | 0 => ("PacketField$Link", "owner", "LPacketField$Station;", true)
  | 1 => ("PacketField$Link", "other", "I", true)
  | 2 => ("PacketField$Link", "path", "LPacketField$Path;", true)
  | 3 => ("PacketField$Link", "outbox", "LPacketField$Bytes;", true)
  | 4 => ("PacketField$Link", "inbox", "LPacketField$Bytes;", true)
  | 5 => ("PacketField$Link", "packets", "LPacketField$Rows;", true)
  | 6 => ("PacketField$Link", "sent", "LPacketField$Rows;", true)
  | 7 => ("PacketField$Link", "mode", "I", false)
  | 8 => ("PacketField$Link", "vs", "I", false)
  | 9 => ("PacketField$Link", "va", "I", false)
  | 10 => ("PacketField$Link", "vr", "I", false)
  | 11 => ("PacketField$Link", "clock", "I", false)
  | 12 => ("PacketField$Link", "tries", "I", false)
  | 13 => ("PacketField$Link", "polls", "Z", false)
  | 14 => ("PacketField$Link", "rejects", "Z", false)
  | 15 => ("PacketField$Link", "held", "Z", false)
  | 16 => ("PacketField$Link", "calls", "I", false)
  | _ => ("PacketField$Link", "seen", "I", false)
def tyX2 : Nat → FieldType := fun k => match k with
  | 0 => .object "PacketField$Station"
  | 1 => .int
  | 2 => .object "PacketField$Path"
  | 3 => .object "PacketField$Bytes"
  | 4 => .object "PacketField$Bytes"
  | 5 => .object "PacketField$Rows"
  | 6 => .object "PacketField$Rows"
  | 7 => .int
  | 8 => .int
  | 9 => .int
  | 10 => .int
  | 11 => .int
  | 12 => .int
  | 13 => .boolean
  | 14 => .boolean
  | 15 => .boolean
  | 16 => .int
  | _ => .int
theorem nmX2 : ∀ a, a < 18 → ∀ b, b < 18 → a ≠ b → (TX2 a).2.1 ≠ (TX2 b).2.1 := by decide +kernel
theorem tyX2_ok : ∀ k, k < 18 → parseFieldDescriptor (TX2 k).2.2.1 = some (tyX2 k) := by decide +kernel
def RX3 : String := "PacketField$Path"
def TX3 : u_T := fun k => match k with
  | 0 => ("PacketField$Path", "to", "I", false)
  | 1 => ("PacketField$Path", "firstVia", "I", false)
  | 2 => ("PacketField$Path", "secondVia", "I", false)
  | _ => ("PacketField$Path", "mark", "I", false)
def tyX3 : Nat → FieldType := fun k => match k with
  | 0 => .int
  | 1 => .int
  | 2 => .int
  | _ => .int
theorem nmX3 : ∀ a, a < 4 → ∀ b, b < 4 → a ≠ b → (TX3 a).2.1 ≠ (TX3 b).2.1 := by decide +kernel
theorem tyX3_ok : ∀ k, k < 4 → parseFieldDescriptor (TX3 k).2.2.1 = some (tyX3 k) := by decide +kernel
def RX4 : String := "PacketField$Receiver"
def TX4 : u_T := fun k => match k with
  | 0 => ("PacketField$Receiver", "row", "LPacketField$Bytes;", true)
  | 1 => ("PacketField$Receiver", "rowBits", "I", false)
  | 2 => ("PacketField$Receiver", "open", "Z", false)
  | 3 => ("PacketField$Receiver", "last", "I", false)
  | 4 => ("PacketField$Receiver", "ones", "I", false)
  | _ => ("PacketField$Receiver", "frame", "LPacketField$Bytes;", true)
def tyX4 : Nat → FieldType := fun k => match k with
  | 0 => .object "PacketField$Bytes"
  | 1 => .int
  | 2 => .boolean
  | 3 => .int
  | 4 => .int
  | _ => .object "PacketField$Bytes"
theorem nmX4 : ∀ a, a < 6 → ∀ b, b < 6 → a ≠ b → (TX4 a).2.1 ≠ (TX4 b).2.1 := by decide +kernel
theorem tyX4_ok : ∀ k, k < 6 → parseFieldDescriptor (TX4 k).2.2.1 = some (tyX4 k) := by decide +kernel
def RX5 : String := "PacketField$Routes"
def TX5 : u_T := fun k => match k with
  | 0 => ("PacketField$Routes", "self", "I", true)
  | 1 => ("PacketField$Routes", "qualities", "[I", true)
  | _ => ("PacketField$Routes", "ages", "[I", true)
def tyX5 : Nat → FieldType := fun k => match k with
  | 0 => .int
  | 1 => .array .int
  | _ => .array .int
theorem nmX5 : ∀ a, a < 3 → ∀ b, b < 3 → a ≠ b → (TX5 a).2.1 ≠ (TX5 b).2.1 := by decide +kernel
theorem tyX5_ok : ∀ k, k < 3 → parseFieldDescriptor (TX5 k).2.2.1 = some (tyX5 k) := by decide +kernel
def RX6 : String := "PacketField$Rows"
def TX6 : u_T := fun k => match k with
  | 0 => ("PacketField$Rows", "rows", "[LPacketField$Bytes;", true)
  | 1 => ("PacketField$Rows", "first", "I", false)
  | _ => ("PacketField$Rows", "count", "I", false)
def tyX6 : Nat → FieldType := fun k => match k with
  | 0 => .array (.object "PacketField$Bytes")
  | 1 => .int
  | _ => .int
theorem nmX6 : ∀ a, a < 3 → ∀ b, b < 3 → a ≠ b → (TX6 a).2.1 ≠ (TX6 b).2.1 := by decide +kernel
theorem tyX6_ok : ∀ k, k < 3 → parseFieldDescriptor (TX6 k).2.2.1 = some (tyX6 k) := by decide +kernel
def RX7 : String := "PacketField$Sender"
def TX7 : u_T := fun k => match k with
  | 0 => ("PacketField$Sender", "content", "LPacketField$Bytes;", true)
  | 1 => ("PacketField$Sender", "position", "I", false)
  | 2 => ("PacketField$Sender", "ones", "I", false)
  | 3 => ("PacketField$Sender", "flagBits", "I", false)
  | 4 => ("PacketField$Sender", "level", "I", false)
  | 5 => ("PacketField$Sender", "sending", "Z", false)
  | _ => ("PacketField$Sender", "had", "I", false)
def tyX7 : Nat → FieldType := fun k => match k with
  | 0 => .object "PacketField$Bytes"
  | 1 => .int
  | 2 => .int
  | 3 => .int
  | 4 => .int
  | 5 => .boolean
  | _ => .int
theorem nmX7 : ∀ a, a < 7 → ∀ b, b < 7 → a ≠ b → (TX7 a).2.1 ≠ (TX7 b).2.1 := by decide +kernel
theorem tyX7_ok : ∀ k, k < 7 → parseFieldDescriptor (TX7 k).2.2.1 = some (tyX7 k) := by decide +kernel
def RX8 : String := "PacketField$Station"
def TX8 : u_T := fun k => match k with
  | 0 => ("PacketField$Station", "number", "I", true)
  | 1 => ("PacketField$Station", "settings", "[I", true)
  | 2 => ("PacketField$Station", "sender", "LPacketField$Sender;", true)
  | 3 => ("PacketField$Station", "receiver", "LPacketField$Receiver;", true)
  | 4 => ("PacketField$Station", "queue", "LPacketField$Rows;", true)
  | 5 => ("PacketField$Station", "mailbox", "LPacketField$Rows;", true)
  | 6 => ("PacketField$Station", "links", "[LPacketField$Link;", true)
  | 7 => ("PacketField$Station", "routes", "LPacketField$Routes;", true)
  | 8 => ("PacketField$Station", "hearing", "I", false)
  | 9 => ("PacketField$Station", "wait", "I", false)
  | 10 => ("PacketField$Station", "carrier", "Z", false)
  | 11 => ("PacketField$Station", "awake", "I", false)
  | 12 => ("PacketField$Station", "letters", "I", false)
  | 13 => ("PacketField$Station", "gone", "I", false)
  | 14 => ("PacketField$Station", "arrived", "I", false)
  | 15 => ("PacketField$Station", "strays", "I", false)
  | 16 => ("PacketField$Station", "bad", "I", false)
  | _ => ("PacketField$Station", "lost", "I", false)
def tyX8 : Nat → FieldType := fun k => match k with
  | 0 => .int
  | 1 => .array .int
  | 2 => .object "PacketField$Sender"
  | 3 => .object "PacketField$Receiver"
  | 4 => .object "PacketField$Rows"
  | 5 => .object "PacketField$Rows"
  | 6 => .array (.object "PacketField$Link")
  | 7 => .object "PacketField$Routes"
  | 8 => .int
  | 9 => .int
  | 10 => .boolean
  | 11 => .int
  | 12 => .int
  | 13 => .int
  | 14 => .int
  | 15 => .int
  | 16 => .int
  | _ => .int
theorem nmX8 : ∀ a, a < 18 → ∀ b, b < 18 → a ≠ b → (TX8 a).2.1 ≠ (TX8 b).2.1 := by decide +kernel
theorem tyX8_ok : ∀ k, k < 18 → parseFieldDescriptor (TX8 k).2.2.1 = some (tyX8 k) := by decide +kernel
def RX9 : String := "PacketField"
def TX9 : u_T := fun k => match k with
  | 0 => ("PacketField", "stations", "[LPacketField$Station;", true)
  | 1 => ("PacketField", "tape", "LPacketField$Bytes;", true)
  | 2 => ("PacketField", "outRow", "LPacketField$Bytes;", true)
  | 3 => ("PacketField", "ownSender", "LPacketField$Sender;", true)
  | 4 => ("PacketField", "ownReceiver", "LPacketField$Receiver;", true)
  | 5 => ("PacketField", "ownPacket", "LPacketField$Bytes;", true)
  | 6 => ("PacketField", "taken", "LPacketField$Frame;", true)
  | 7 => ("PacketField", "ticks", "I", false)
  | 8 => ("PacketField", "onAir", "I", false)
  | 9 => ("PacketField", "levels", "I", false)
  | _ => ("PacketField", "ended", "I", false)
def tyX9 : Nat → FieldType := fun k => match k with
  | 0 => .array (.object "PacketField$Station")
  | 1 => .object "PacketField$Bytes"
  | 2 => .object "PacketField$Bytes"
  | 3 => .object "PacketField$Sender"
  | 4 => .object "PacketField$Receiver"
  | 5 => .object "PacketField$Bytes"
  | 6 => .object "PacketField$Frame"
  | 7 => .int
  | 8 => .int
  | 9 => .int
  | _ => .int
theorem nmX9 : ∀ a, a < 11 → ∀ b, b < 11 → a ≠ b → (TX9 a).2.1 ≠ (TX9 b).2.1 := by decide +kernel
theorem tyX9_ok : ∀ k, k < 11 → parseFieldDescriptor (TX9 k).2.2.1 = some (tyX9 k) := by decide +kernel
def RX10 : String := "PacketFieldModel"
def TX10 : u_T := fun k => match k with
  | 0 => ("PacketFieldModel", "tape", "[I", true)
  | 1 => ("PacketFieldModel", "taped", "I", false)
  | 2 => ("PacketFieldModel", "out", "[I", true)
  | 3 => ("PacketFieldModel", "outSize", "I", false)
  | 4 => ("PacketFieldModel", "made", "[I", true)
  | 5 => ("PacketFieldModel", "madeSize", "I", false)
  | 6 => ("PacketFieldModel", "inARow", "I", false)
  | 7 => ("PacketFieldModel", "last", "[I", true)
  | 8 => ("PacketFieldModel", "ones", "[I", true)
  | 9 => ("PacketFieldModel", "open", "[Z", true)
  | 10 => ("PacketFieldModel", "rowSize", "[I", true)
  | 11 => ("PacketFieldModel", "row", "[I", true)
  | 12 => ("PacketFieldModel", "cameSize", "[I", true)
  | 13 => ("PacketFieldModel", "came", "[I", true)
  | 14 => ("PacketFieldModel", "bytes", "[I", true)
  | 15 => ("PacketFieldModel", "time", "I", false)
  | 16 => ("PacketFieldModel", "tuned", "[I", true)
  | 17 => ("PacketFieldModel", "hears", "[Z", true)
  | 18 => ("PacketFieldModel", "queueSize", "[I", true)
  | 19 => ("PacketFieldModel", "queueLong", "[I", true)
  | 20 => ("PacketFieldModel", "queue", "[I", true)
  | 21 => ("PacketFieldModel", "wait", "[I", true)
  | 22 => ("PacketFieldModel", "carrier", "[Z", true)
  | 23 => ("PacketFieldModel", "level", "[I", true)
  | 24 => ("PacketFieldModel", "sending", "[Z", true)
  | 25 => ("PacketFieldModel", "lineSize", "[I", true)
  | 26 => ("PacketFieldModel", "lineAt", "[I", true)
  | 27 => ("PacketFieldModel", "line", "[I", true)
  | 28 => ("PacketFieldModel", "had", "[I", true)
  | 29 => ("PacketFieldModel", "sentLong", "[I", true)
  | 30 => ("PacketFieldModel", "sent", "[I", true)
  | 31 => ("PacketFieldModel", "through", "[Z", true)
  | 32 => ("PacketFieldModel", "counts", "[I", true)
  | 33 => ("PacketFieldModel", "frame", "[I", true)
  | 34 => ("PacketFieldModel", "frameSize", "I", false)
  | 35 => ("PacketFieldModel", "arrived", "[Z", true)
  | 36 => ("PacketFieldModel", "at0", "[I", true)
  | 37 => ("PacketFieldModel", "atSize", "I", false)
  | 38 => ("PacketFieldModel", "to", "I", false)
  | 39 => ("PacketFieldModel", "from", "I", false)
  | 40 => ("PacketFieldModel", "vias", "I", false)
  | 41 => ("PacketFieldModel", "control", "I", false)
  | 42 => ("PacketFieldModel", "mark0", "I", false)
  | 43 => ("PacketFieldModel", "text", "I", false)
  | 44 => ("PacketFieldModel", "isCommand", "Z", false)
  | 45 => ("PacketFieldModel", "ends", "Z", false)
  | 46 => ("PacketFieldModel", "via", "[I", true)
  | 47 => ("PacketFieldModel", "repeated", "[Z", true)
  | 48 => ("PacketFieldModel", "seventh", "I", false)
  | 49 => ("PacketFieldModel", "mode", "[I", true)
  | 50 => ("PacketFieldModel", "viaOne", "[I", true)
  | 51 => ("PacketFieldModel", "viaTwo", "[I", true)
  | 52 => ("PacketFieldModel", "mark", "[I", true)
  | 53 => ("PacketFieldModel", "vs", "[I", true)
  | 54 => ("PacketFieldModel", "va", "[I", true)
  | 55 => ("PacketFieldModel", "vr", "[I", true)
  | 56 => ("PacketFieldModel", "clock", "[I", true)
  | 57 => ("PacketFieldModel", "tries", "[I", true)
  | 58 => ("PacketFieldModel", "polls", "[Z", true)
  | 59 => ("PacketFieldModel", "rejects", "[Z", true)
  | 60 => ("PacketFieldModel", "held", "[Z", true)
  | 61 => ("PacketFieldModel", "calls", "[I", true)
  | 62 => ("PacketFieldModel", "seen", "[I", true)
  | 63 => ("PacketFieldModel", "outbox", "[I", true)
  | 64 => ("PacketFieldModel", "outboxSize", "[I", true)
  | 65 => ("PacketFieldModel", "inbox", "[I", true)
  | 66 => ("PacketFieldModel", "inboxSize", "[I", true)
  | 67 => ("PacketFieldModel", "packets", "[I", true)
  | 68 => ("PacketFieldModel", "packetLong", "[I", true)
  | 69 => ("PacketFieldModel", "packetMany", "[I", true)
  | 70 => ("PacketFieldModel", "said", "[I", true)
  | 71 => ("PacketFieldModel", "saidLong", "[I", true)
  | 72 => ("PacketFieldModel", "saidKind", "[I", true)
  | 73 => ("PacketFieldModel", "saidMany", "[I", true)
  | 74 => ("PacketFieldModel", "quality", "[I", true)
  | 75 => ("PacketFieldModel", "age", "[I", true)
  | 76 => ("PacketFieldModel", "packet", "[I", true)
  | 77 => ("PacketFieldModel", "packetSize", "I", false)
  | 78 => ("PacketFieldModel", "mails", "[I", true)
  | 79 => ("PacketFieldModel", "mail", "[I", true)
  | _ => ("PacketFieldModel", "written", "[I", true)
def tyX10 : Nat → FieldType := fun k => match k with
  | 0 => .array .int
  | 1 => .int
  | 2 => .array .int
  | 3 => .int
  | 4 => .array .int
  | 5 => .int
  | 6 => .int
  | 7 => .array .int
  | 8 => .array .int
  | 9 => .array .boolean
  | 10 => .array .int
  | 11 => .array .int
  | 12 => .array .int
  | 13 => .array .int
  | 14 => .array .int
  | 15 => .int
  | 16 => .array .int
  | 17 => .array .boolean
  | 18 => .array .int
  | 19 => .array .int
  | 20 => .array .int
  | 21 => .array .int
  | 22 => .array .boolean
  | 23 => .array .int
  | 24 => .array .boolean
  | 25 => .array .int
  | 26 => .array .int
  | 27 => .array .int
  | 28 => .array .int
  | 29 => .array .int
  | 30 => .array .int
  | 31 => .array .boolean
  | 32 => .array .int
  | 33 => .array .int
  | 34 => .int
  | 35 => .array .boolean
  | 36 => .array .int
  | 37 => .int
  | 38 => .int
  | 39 => .int
  | 40 => .int
  | 41 => .int
  | 42 => .int
  | 43 => .int
  | 44 => .boolean
  | 45 => .boolean
  | 46 => .array .int
  | 47 => .array .boolean
  | 48 => .int
  | 49 => .array .int
  | 50 => .array .int
  | 51 => .array .int
  | 52 => .array .int
  | 53 => .array .int
  | 54 => .array .int
  | 55 => .array .int
  | 56 => .array .int
  | 57 => .array .int
  | 58 => .array .boolean
  | 59 => .array .boolean
  | 60 => .array .boolean
  | 61 => .array .int
  | 62 => .array .int
  | 63 => .array .int
  | 64 => .array .int
  | 65 => .array .int
  | 66 => .array .int
  | 67 => .array .int
  | 68 => .array .int
  | 69 => .array .int
  | 70 => .array .int
  | 71 => .array .int
  | 72 => .array .int
  | 73 => .array .int
  | 74 => .array .int
  | 75 => .array .int
  | 76 => .array .int
  | 77 => .int
  | 78 => .array .int
  | 79 => .array .int
  | _ => .array .int
theorem nmX10 : ∀ a, a < 81 → ∀ b, b < 81 → a ≠ b → (TX10 a).2.1 ≠ (TX10 b).2.1 := by decide +kernel
theorem tyX10_ok : ∀ k, k < 81 → parseFieldDescriptor (TX10 k).2.2.1 = some (tyX10 k) := by decide +kernel
abbrev vwCl : List vw_C := [(RX0, TX0, 2), (RX1, TX1, 12), (RX2, TX2, 18), (RX3, TX3, 4), (RX4, TX4, 6), (RX5, TX5, 3), (RX6, TX6, 3), (RX7, TX7, 7), (RX8, TX8, 18), (RX9, TX9, 11), (RX10, TX10, 81)]
/-! words, types, statics -/
def mtb : List Cond := lw_tbl.filter goodWord
theorem mtb_in {w : Cond} (h : w ∈ lw_tbl) (g : goodWord w = true) : w ∈ mtb := List.mem_filter.mpr ⟨h, g⟩
theorem mtb_of {w : Cond} (h : w ∈ mtb) : w ∈ lw_tbl := (List.mem_filter.mp h).1
theorem tb_1 {w : Cond} (h : w ∈ tables_1_1) : w ∈ lw_tbl := List.mem_append_right _ (List.mem_append_left _ h)
theorem tb_2 {w : Cond} (h : w ∈ tables_1_2) : w ∈ lw_tbl := List.mem_append_right _ (List.mem_append_right _ (List.mem_append_left _ h))
theorem tb_3 {w : Cond} (h : w ∈ tables_1_3) : w ∈ lw_tbl := List.mem_append_right _ (List.mem_append_right _ (List.mem_append_right _ (List.mem_append_left _ h)))
theorem tb_4 {w : Cond} (h : w ∈ tables_1_4) : w ∈ lw_tbl := List.mem_append_right _ (List.mem_append_right _ (List.mem_append_right _ (List.mem_append_right _ (List.mem_append_left _ h))))
theorem tb_5 {w : Cond} (h : w ∈ tables_1_5) : w ∈ lw_tbl := List.mem_append_right _ (List.mem_append_right _ (List.mem_append_right _ (List.mem_append_right _ (List.mem_append_right _ (List.mem_append_left _ h)))))
theorem tb_6 {w : Cond} (h : w ∈ tables_1_6) : w ∈ lw_tbl := List.mem_append_right _ (List.mem_append_right _ (List.mem_append_right _ (List.mem_append_right _ (List.mem_append_right _ (List.mem_append_right _ (List.mem_append_left _ h))))))
theorem tb_7 {w : Cond} (h : w ∈ tables_1_7) : w ∈ lw_tbl := List.mem_append_right _ (List.mem_append_right _ (List.mem_append_right _ (List.mem_append_right _ (List.mem_append_right _ (List.mem_append_right _ (List.mem_append_right _ (h)))))))
def mft (c j : Nat) : FieldType := match c with
  | 0 => tyX0 j
  | 1 => tyX1 j
  | 2 => tyX2 j
  | 3 => tyX3 j
  | 4 => tyX4 j
  | 5 => tyX5 j
  | 6 => tyX6 j
  | 7 => tyX7 j
  | 8 => tyX8 j
  | 9 => tyX9 j
  | _ => tyX10 j
def mtl : List FieldType := [.int, .boolean, .object "PacketField$Bytes", .object "PacketField$Link", .object "PacketField$Station"]
def mst : List (Nat × String × String × String) := [(1, "PacketField", "LEAST", "[I"), (2, "PacketField", "MOST", "[I"), (3, "PacketField", "STATION_NAME", "[I"), (4, "PacketField", "NODES_NAME", "[I")]
def mtV (q : Nat) : List Int32 := match q with
  | 1 => [0, 1, 1, -2147483648, 100, 1, 200, 0, -2147483648]
  | 2 => [256, 200, 16, 2147483647, 20000, 255, 20000, 4096, 2147483647]
  | 3 => [140, 146, 138, 152, 136, 64]
  | 4 => [156, 158, 136, 138, 166, 64]
  | _ => []
def mtN (q : Nat) : Nat := (mtV q).length
def mtF (q j : Nat) : Int32 := (mtV q).getD j 0
def mnw : List Cond := [
  (Jvm.Cond.arrayOver (Jvm.ClassFile.FieldType.object "PacketField$Station")),
  (Jvm.Cond.fieldLinkNest "PacketField$Station" (15 : Nat) "PacketField" "LEAST" "[I" "PacketField"),
  (Jvm.Cond.arrayOver (Jvm.ClassFile.FieldType.object "PacketField$Bytes")),
  (Jvm.Cond.arrayOver (Jvm.ClassFile.FieldType.object "PacketField$Link")),
  (Jvm.Cond.methodLinkNest "PacketField$Link" (21 : Nat) ({ cls := "PacketField$Path", name := "<init>", desc := "()V" } : Jvm.MethodName) "PacketField"),
  (Jvm.Cond.methodLinkNest "PacketField" (56 : Nat) ({ cls := "PacketField$Frame", name := "<init>", desc := "()V" } : Jvm.MethodName) "PacketField"),
  (Jvm.Cond.methodLinkNest "PacketField$Frame" (11 : Nat) ({ cls := "PacketField$Path", name := "<init>", desc := "()V" } : Jvm.MethodName) "PacketField"),
  (Jvm.Cond.methodLinkNest "PacketField$Sender" (43 : Nat) ({ cls := "PacketField", name := "checkOf", desc := "(LPacketField$Bytes;I)I" } : Jvm.MethodName) "PacketField"),
  (Jvm.Cond.methodLinkNest "PacketField$Receiver" (64 : Nat) ({ cls := "PacketField", name := "checkOf", desc := "(LPacketField$Bytes;I)I" } : Jvm.MethodName) "PacketField"),
  (Jvm.Cond.methodLinkNest "PacketField$Routes" (22 : Nat) ({ cls := "PacketField", name := "isStation", desc := "(I)Z" } : Jvm.MethodName) "PacketField"),
  (Jvm.Cond.fieldLinkNest "PacketField$Frame" (69 : Nat) "PacketField" "NODES_NAME" "[I" "PacketField"),
  (Jvm.Cond.methodLinkNest "PacketField$Frame" (77 : Nat) ({ cls := "PacketField", name := "isStation", desc := "(I)Z" } : Jvm.MethodName) "PacketField"),
  (Jvm.Cond.fieldLinkNest "PacketField$Frame" (81 : Nat) "PacketField" "STATION_NAME" "[I" "PacketField")]
def mCl (c : Nat) (C : String) (T : u_T) (N : Nat) : Prop := vwCl[c]? = some (C, T, N) ∧ (∀ w ∈ u_ws C T N, w ∈ mtb) ∧ (∀ k, k < N → parseFieldDescriptor (T k).2.2.1 = some (mft c k)) ∧ ∀ a, a < N → ∀ b, b < N → a ≠ b → (T a).2.1 ≠ (T b).2.1
theorem cf_0 : ∀ w ∈ u_ws RX0 TX0 2, w ∈ lw_tbl := by decide +kernel
theorem cg_0 : (u_ws RX0 TX0 2).all goodWord = true := by decide +kernel
theorem mcl_0 : mCl 0 RX0 TX0 2 := ⟨rfl, fun w h => mtb_in (cf_0 w h) (List.all_eq_true.mp cg_0 w h), tyX0_ok, nmX0⟩
theorem cf_1 : ∀ w ∈ u_ws RX1 TX1 12, w ∈ lw_tbl := by decide +kernel
theorem cg_1 : (u_ws RX1 TX1 12).all goodWord = true := by decide +kernel
theorem mcl_1 : mCl 1 RX1 TX1 12 := ⟨rfl, fun w h => mtb_in (cf_1 w h) (List.all_eq_true.mp cg_1 w h), tyX1_ok, nmX1⟩
theorem cf_2 : ∀ w ∈ u_ws RX2 TX2 18, w ∈ lw_tbl := by decide +kernel
theorem cg_2 : (u_ws RX2 TX2 18).all goodWord = true := by decide +kernel
theorem mcl_2 : mCl 2 RX2 TX2 18 := ⟨rfl, fun w h => mtb_in (cf_2 w h) (List.all_eq_true.mp cg_2 w h), tyX2_ok, nmX2⟩
theorem cf_3 : ∀ w ∈ u_ws RX3 TX3 4, w ∈ lw_tbl := by decide +kernel
theorem cg_3 : (u_ws RX3 TX3 4).all goodWord = true := by decide +kernel
theorem mcl_3 : mCl 3 RX3 TX3 4 := ⟨rfl, fun w h => mtb_in (cf_3 w h) (List.all_eq_true.mp cg_3 w h), tyX3_ok, nmX3⟩
theorem cf_4 : ∀ w ∈ u_ws RX4 TX4 6, w ∈ lw_tbl := by decide +kernel
theorem cg_4 : (u_ws RX4 TX4 6).all goodWord = true := by decide +kernel
theorem mcl_4 : mCl 4 RX4 TX4 6 := ⟨rfl, fun w h => mtb_in (cf_4 w h) (List.all_eq_true.mp cg_4 w h), tyX4_ok, nmX4⟩
theorem cf_5 : ∀ w ∈ u_ws RX5 TX5 3, w ∈ lw_tbl := by decide +kernel
theorem cg_5 : (u_ws RX5 TX5 3).all goodWord = true := by decide +kernel
theorem mcl_5 : mCl 5 RX5 TX5 3 := ⟨rfl, fun w h => mtb_in (cf_5 w h) (List.all_eq_true.mp cg_5 w h), tyX5_ok, nmX5⟩
theorem cf_6 : ∀ w ∈ u_ws RX6 TX6 3, w ∈ lw_tbl := by decide +kernel
theorem cg_6 : (u_ws RX6 TX6 3).all goodWord = true := by decide +kernel
theorem mcl_6 : mCl 6 RX6 TX6 3 := ⟨rfl, fun w h => mtb_in (cf_6 w h) (List.all_eq_true.mp cg_6 w h), tyX6_ok, nmX6⟩
theorem cf_7 : ∀ w ∈ u_ws RX7 TX7 7, w ∈ lw_tbl := by decide +kernel
theorem cg_7 : (u_ws RX7 TX7 7).all goodWord = true := by decide +kernel
theorem mcl_7 : mCl 7 RX7 TX7 7 := ⟨rfl, fun w h => mtb_in (cf_7 w h) (List.all_eq_true.mp cg_7 w h), tyX7_ok, nmX7⟩
theorem cf_8 : ∀ w ∈ u_ws RX8 TX8 18, w ∈ lw_tbl := by decide +kernel
theorem cg_8 : (u_ws RX8 TX8 18).all goodWord = true := by decide +kernel
theorem mcl_8 : mCl 8 RX8 TX8 18 := ⟨rfl, fun w h => mtb_in (cf_8 w h) (List.all_eq_true.mp cg_8 w h), tyX8_ok, nmX8⟩
theorem cf_9 : ∀ w ∈ u_ws RX9 TX9 11, w ∈ lw_tbl := by decide +kernel
theorem cg_9 : (u_ws RX9 TX9 11).all goodWord = true := by decide +kernel
theorem mcl_9 : mCl 9 RX9 TX9 11 := ⟨rfl, fun w h => mtb_in (cf_9 w h) (List.all_eq_true.mp cg_9 w h), tyX9_ok, nmX9⟩
theorem cf_10 : ∀ w ∈ u_ws RX10 TX10 81, w ∈ lw_tbl := by decide +kernel
theorem cg_10 : (u_ws RX10 TX10 81).all goodWord = true := by decide +kernel
theorem mcl_10 : mCl 10 RX10 TX10 81 := ⟨rfl, fun w h => mtb_in (cf_10 w h) (List.all_eq_true.mp cg_10 w h), tyX10_ok, nmX10⟩
