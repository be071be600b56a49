section
-- ===== PART A: goes FIRST, ahead of the names: the tables' words, and 'selects' of the private methods out of them =====
/-- a private method of a class that the tables say can be made, by its rows of tables_1 -/
def lw_okq (q : MethodName × Nat) : Prop := (q.1.cls ≠ "java/lang/invoke/MethodHandle" ∧ q.1.cls ≠ "java/lang/invoke/VarHandle") ∧ Cond.instantiable q.1.cls q.2 ∈ tables_1 ∧ Cond.privateMethod q.1 ∈ tables_1 ∧ Cond.instanceMethod q.1 ∈ tables_1
theorem lw_p0 : lw_okq (⟨"PacketField", "putLevels", "()V"⟩, 11) := ⟨⟨by decide +kernel, by decide +kernel⟩, List.mem_of_getElem? (i := 16) (by decide +kernel), List.mem_of_getElem? (i := 463) (by decide +kernel), List.mem_of_getElem? (i := 464) (by decide +kernel)⟩
theorem lw_p1 : lw_okq (⟨"PacketField", "putOut", "(LPacketField$Bytes;II)V"⟩, 11) := ⟨⟨by decide +kernel, by decide +kernel⟩, List.mem_of_getElem? (i := 16) (by decide +kernel), List.mem_of_getElem? (i := 536) (by decide +kernel), List.mem_of_getElem? (i := 537) (by decide +kernel)⟩
theorem lw_p2 : lw_okq (⟨"PacketField", "stationAt", "(I)LPacketField$Station;"⟩, 11) := ⟨⟨by decide +kernel, by decide +kernel⟩, List.mem_of_getElem? (i := 16) (by decide +kernel), List.mem_of_getElem? (i := 545) (by decide +kernel), List.mem_of_getElem? (i := 546) (by decide +kernel)⟩
theorem lw_p3 : lw_okq (⟨"PacketField", "linkAt", "(II)LPacketField$Link;"⟩, 11) := ⟨⟨by decide +kernel, by decide +kernel⟩, List.mem_of_getElem? (i := 16) (by decide +kernel), List.mem_of_getElem? (i := 574) (by decide +kernel), List.mem_of_getElem? (i := 575) (by decide +kernel)⟩
theorem lw_p4 : lw_okq (⟨"PacketField", "giveTape", "(LPacketField$Link;)I"⟩, 11) := ⟨⟨by decide +kernel, by decide +kernel⟩, List.mem_of_getElem? (i := 16) (by decide +kernel), List.mem_of_getElem? (i := 618) (by decide +kernel), List.mem_of_getElem? (i := 619) (by decide +kernel)⟩
theorem lw_p5 : lw_okq (⟨"PacketField", "drawForChannel", "()V"⟩, 11) := ⟨⟨by decide +kernel, by decide +kernel⟩, List.mem_of_getElem? (i := 16) (by decide +kernel), List.mem_of_getElem? (i := 698) (by decide +kernel), List.mem_of_getElem? (i := 699) (by decide +kernel)⟩
theorem lw_p6 : lw_okq (⟨"PacketField", "sendBits", "()V"⟩, 11) := ⟨⟨by decide +kernel, by decide +kernel⟩, List.mem_of_getElem? (i := 16) (by decide +kernel), List.mem_of_getElem? (i := 706) (by decide +kernel), List.mem_of_getElem? (i := 707) (by decide +kernel)⟩
theorem lw_p7 : lw_okq (⟨"PacketField", "sendNext", "(LPacketField$Station;)V"⟩, 11) := ⟨⟨by decide +kernel, by decide +kernel⟩, List.mem_of_getElem? (i := 16) (by decide +kernel), List.mem_of_getElem? (i := 710) (by decide +kernel), List.mem_of_getElem? (i := 711) (by decide +kernel)⟩
theorem lw_p8 : lw_okq (⟨"PacketField", "hearLevels", "()I"⟩, 11) := ⟨⟨by decide +kernel, by decide +kernel⟩, List.mem_of_getElem? (i := 16) (by decide +kernel), List.mem_of_getElem? (i := 718) (by decide +kernel), List.mem_of_getElem? (i := 719) (by decide +kernel)⟩
theorem lw_p9 : lw_okq (⟨"PacketField", "levelOf", "(LPacketField$Station;I)I"⟩, 11) := ⟨⟨by decide +kernel, by decide +kernel⟩, List.mem_of_getElem? (i := 16) (by decide +kernel), List.mem_of_getElem? (i := 723) (by decide +kernel), List.mem_of_getElem? (i := 724) (by decide +kernel)⟩
theorem lw_p10 : lw_okq (⟨"PacketField", "isStray", "(LPacketField$Bytes;I)Z"⟩, 11) := ⟨⟨by decide +kernel, by decide +kernel⟩, List.mem_of_getElem? (i := 16) (by decide +kernel), List.mem_of_getElem? (i := 738) (by decide +kernel), List.mem_of_getElem? (i := 739) (by decide +kernel)⟩
theorem lw_p11 : lw_okq (⟨"PacketField", "takeFrame", "(LPacketField$Station;)V"⟩, 11) := ⟨⟨by decide +kernel, by decide +kernel⟩, List.mem_of_getElem? (i := 16) (by decide +kernel), List.mem_of_getElem? (i := 746) (by decide +kernel), List.mem_of_getElem? (i := 747) (by decide +kernel)⟩
theorem lw_p12 : lw_okq (⟨"PacketField", "repeat", "(LPacketField$Station;LPacketField$Bytes;)V"⟩, 11) := ⟨⟨by decide +kernel, by decide +kernel⟩, List.mem_of_getElem? (i := 16) (by decide +kernel), List.mem_of_getElem? (i := 786) (by decide +kernel), List.mem_of_getElem? (i := 787) (by decide +kernel)⟩
theorem lw_p13 : lw_okq (⟨"PacketField", "takeSabm", "(LPacketField$Link;)V"⟩, 11) := ⟨⟨by decide +kernel, by decide +kernel⟩, List.mem_of_getElem? (i := 16) (by decide +kernel), List.mem_of_getElem? (i := 803) (by decide +kernel), List.mem_of_getElem? (i := 804) (by decide +kernel)⟩
theorem lw_p14 : lw_okq (⟨"PacketField", "answer", "(LPacketField$Station;I)V"⟩, 11) := ⟨⟨by decide +kernel, by decide +kernel⟩, List.mem_of_getElem? (i := 16) (by decide +kernel), List.mem_of_getElem? (i := 807) (by decide +kernel), List.mem_of_getElem? (i := 808) (by decide +kernel)⟩
theorem lw_p15 : lw_okq (⟨"PacketField", "takeWhileUp", "(LPacketField$Link;)V"⟩, 11) := ⟨⟨by decide +kernel, by decide +kernel⟩, List.mem_of_getElem? (i := 16) (by decide +kernel), List.mem_of_getElem? (i := 815) (by decide +kernel), List.mem_of_getElem? (i := 816) (by decide +kernel)⟩
def lw_privs_1 : List (MethodName × Nat) := [(⟨"PacketField", "putLevels", "()V"⟩, 11), (⟨"PacketField", "putOut", "(LPacketField$Bytes;II)V"⟩, 11), (⟨"PacketField", "stationAt", "(I)LPacketField$Station;"⟩, 11), (⟨"PacketField", "linkAt", "(II)LPacketField$Link;"⟩, 11), (⟨"PacketField", "giveTape", "(LPacketField$Link;)I"⟩, 11), (⟨"PacketField", "drawForChannel", "()V"⟩, 11), (⟨"PacketField", "sendBits", "()V"⟩, 11), (⟨"PacketField", "sendNext", "(LPacketField$Station;)V"⟩, 11), (⟨"PacketField", "hearLevels", "()I"⟩, 11), (⟨"PacketField", "levelOf", "(LPacketField$Station;I)I"⟩, 11), (⟨"PacketField", "isStray", "(LPacketField$Bytes;I)Z"⟩, 11), (⟨"PacketField", "takeFrame", "(LPacketField$Station;)V"⟩, 11), (⟨"PacketField", "repeat", "(LPacketField$Station;LPacketField$Bytes;)V"⟩, 11), (⟨"PacketField", "takeSabm", "(LPacketField$Link;)V"⟩, 11), (⟨"PacketField", "answer", "(LPacketField$Station;I)V"⟩, 11), (⟨"PacketField", "takeWhileUp", "(LPacketField$Link;)V"⟩, 11)]
theorem lw_r1 : ∀ q ∈ lw_privs_1, lw_okq q := List.forall_mem_cons.mpr ⟨lw_p0, List.forall_mem_cons.mpr ⟨lw_p1, List.forall_mem_cons.mpr ⟨lw_p2, List.forall_mem_cons.mpr ⟨lw_p3, List.forall_mem_cons.mpr ⟨lw_p4, List.forall_mem_cons.mpr ⟨lw_p5, List.forall_mem_cons.mpr ⟨lw_p6, List.forall_mem_cons.mpr ⟨lw_p7, List.forall_mem_cons.mpr ⟨lw_p8, List.forall_mem_cons.mpr ⟨lw_p9, List.forall_mem_cons.mpr ⟨lw_p10, List.forall_mem_cons.mpr ⟨lw_p11, List.forall_mem_cons.mpr ⟨lw_p12, List.forall_mem_cons.mpr ⟨lw_p13, List.forall_mem_cons.mpr ⟨lw_p14, List.forall_mem_cons.mpr ⟨lw_p15, fun _ h => absurd h List.not_mem_nil⟩⟩⟩⟩⟩⟩⟩⟩⟩⟩⟩⟩⟩⟩⟩⟩
theorem lw_p16 : lw_okq (⟨"PacketField", "acknowledge", "(LPacketField$Link;)Z"⟩, 11) := ⟨⟨by decide +kernel, by decide +kernel⟩, List.mem_of_getElem? (i := 16) (by decide +kernel), List.mem_of_getElem? (i := 824) (by decide +kernel), List.mem_of_getElem? (i := 825) (by decide +kernel)⟩
theorem lw_p17 : lw_okq (⟨"PacketField", "takeInformation", "(LPacketField$Link;)V"⟩, 11) := ⟨⟨by decide +kernel, by decide +kernel⟩, List.mem_of_getElem? (i := 16) (by decide +kernel), List.mem_of_getElem? (i := 828) (by decide +kernel), List.mem_of_getElem? (i := 829) (by decide +kernel)⟩
theorem lw_p18 : lw_okq (⟨"PacketField", "takeSupervision", "(LPacketField$Link;)V"⟩, 11) := ⟨⟨by decide +kernel, by decide +kernel⟩, List.mem_of_getElem? (i := 16) (by decide +kernel), List.mem_of_getElem? (i := 832) (by decide +kernel), List.mem_of_getElem? (i := 833) (by decide +kernel)⟩
theorem lw_p19 : lw_okq (⟨"PacketField", "takeWhileWaiting", "(LPacketField$Link;)V"⟩, 11) := ⟨⟨by decide +kernel, by decide +kernel⟩, List.mem_of_getElem? (i := 16) (by decide +kernel), List.mem_of_getElem? (i := 842) (by decide +kernel), List.mem_of_getElem? (i := 843) (by decide +kernel)⟩
theorem lw_p20 : lw_okq (⟨"PacketField", "turnClocks", "()V"⟩, 11) := ⟨⟨by decide +kernel, by decide +kernel⟩, List.mem_of_getElem? (i := 16) (by decide +kernel), List.mem_of_getElem? (i := 847) (by decide +kernel), List.mem_of_getElem? (i := 848) (by decide +kernel)⟩
theorem lw_p21 : lw_okq (⟨"PacketField", "tellRoutesInTime", "()V"⟩, 11) := ⟨⟨by decide +kernel, by decide +kernel⟩, List.mem_of_getElem? (i := 16) (by decide +kernel), List.mem_of_getElem? (i := 854) (by decide +kernel), List.mem_of_getElem? (i := 855) (by decide +kernel)⟩
theorem lw_p22 : lw_okq (⟨"PacketField", "sayWhatMayBeSaid", "()V"⟩, 11) := ⟨⟨by decide +kernel, by decide +kernel⟩, List.mem_of_getElem? (i := 16) (by decide +kernel), List.mem_of_getElem? (i := 858) (by decide +kernel), List.mem_of_getElem? (i := 859) (by decide +kernel)⟩
theorem lw_p23 : lw_okq (⟨"PacketFieldModel", "lay", "(I)V"⟩, 81) := ⟨⟨by decide +kernel, by decide +kernel⟩, List.mem_of_getElem? (i := 901) (by decide +kernel), List.mem_of_getElem? (i := 1156) (by decide +kernel), List.mem_of_getElem? (i := 1157) (by decide +kernel)⟩
theorem lw_p24 : lw_okq (⟨"PacketFieldModel", "makeFlag", "()V"⟩, 81) := ⟨⟨by decide +kernel, by decide +kernel⟩, List.mem_of_getElem? (i := 901) (by decide +kernel), List.mem_of_getElem? (i := 1175) (by decide +kernel), List.mem_of_getElem? (i := 1176) (by decide +kernel)⟩
theorem lw_p25 : lw_okq (⟨"PacketFieldModel", "makeFrame", "([III)V"⟩, 81) := ⟨⟨by decide +kernel, by decide +kernel⟩, List.mem_of_getElem? (i := 901) (by decide +kernel), List.mem_of_getElem? (i := 1179) (by decide +kernel), List.mem_of_getElem? (i := 1180) (by decide +kernel)⟩
theorem lw_p26 : lw_okq (⟨"PacketFieldModel", "makeByte", "(I)V"⟩, 81) := ⟨⟨by decide +kernel, by decide +kernel⟩, List.mem_of_getElem? (i := 901) (by decide +kernel), List.mem_of_getElem? (i := 1183) (by decide +kernel), List.mem_of_getElem? (i := 1184) (by decide +kernel)⟩
theorem lw_p27 : lw_okq (⟨"PacketFieldModel", "makeBit", "(I)V"⟩, 81) := ⟨⟨by decide +kernel, by decide +kernel⟩, List.mem_of_getElem? (i := 901) (by decide +kernel), List.mem_of_getElem? (i := 1187) (by decide +kernel), List.mem_of_getElem? (i := 1188) (by decide +kernel)⟩
theorem lw_p28 : lw_okq (⟨"PacketFieldModel", "hear", "(II)Z"⟩, 81) := ⟨⟨by decide +kernel, by decide +kernel⟩, List.mem_of_getElem? (i := 901) (by decide +kernel), List.mem_of_getElem? (i := 1200) (by decide +kernel), List.mem_of_getElem? (i := 1201) (by decide +kernel)⟩
theorem lw_p29 : lw_okq (⟨"PacketFieldModel", "comes", "(II)V"⟩, 81) := ⟨⟨by decide +kernel, by decide +kernel⟩, List.mem_of_getElem? (i := 901) (by decide +kernel), List.mem_of_getElem? (i := 1204) (by decide +kernel), List.mem_of_getElem? (i := 1205) (by decide +kernel)⟩
theorem lw_p30 : lw_okq (⟨"PacketFieldModel", "isFrame", "(I)Z"⟩, 81) := ⟨⟨by decide +kernel, by decide +kernel⟩, List.mem_of_getElem? (i := 901) (by decide +kernel), List.mem_of_getElem? (i := 1208) (by decide +kernel), List.mem_of_getElem? (i := 1209) (by decide +kernel)⟩
theorem lw_p31 : lw_okq (⟨"PacketFieldModel", "put", "(I)V"⟩, 81) := ⟨⟨by decide +kernel, by decide +kernel⟩, List.mem_of_getElem? (i := 901) (by decide +kernel), List.mem_of_getElem? (i := 1233) (by decide +kernel), List.mem_of_getElem? (i := 1234) (by decide +kernel)⟩
def lw_privs_2 : List (MethodName × Nat) := [(⟨"PacketField", "acknowledge", "(LPacketField$Link;)Z"⟩, 11), (⟨"PacketField", "takeInformation", "(LPacketField$Link;)V"⟩, 11), (⟨"PacketField", "takeSupervision", "(LPacketField$Link;)V"⟩, 11), (⟨"PacketField", "takeWhileWaiting", "(LPacketField$Link;)V"⟩, 11), (⟨"PacketField", "turnClocks", "()V"⟩, 11), (⟨"PacketField", "tellRoutesInTime", "()V"⟩, 11), (⟨"PacketField", "sayWhatMayBeSaid", "()V"⟩, 11), (⟨"PacketFieldModel", "lay", "(I)V"⟩, 81), (⟨"PacketFieldModel", "makeFlag", "()V"⟩, 81), (⟨"PacketFieldModel", "makeFrame", "([III)V"⟩, 81), (⟨"PacketFieldModel", "makeByte", "(I)V"⟩, 81), (⟨"PacketFieldModel", "makeBit", "(I)V"⟩, 81), (⟨"PacketFieldModel", "hear", "(II)Z"⟩, 81), (⟨"PacketFieldModel", "comes", "(II)V"⟩, 81), (⟨"PacketFieldModel", "isFrame", "(I)Z"⟩, 81), (⟨"PacketFieldModel", "put", "(I)V"⟩, 81)]
theorem lw_r2 : ∀ q ∈ lw_privs_2, lw_okq q := List.forall_mem_cons.mpr ⟨lw_p16, List.forall_mem_cons.mpr ⟨lw_p17, List.forall_mem_cons.mpr ⟨lw_p18, List.forall_mem_cons.mpr ⟨lw_p19, List.forall_mem_cons.mpr ⟨lw_p20, List.forall_mem_cons.mpr ⟨lw_p21, List.forall_mem_cons.mpr ⟨lw_p22, List.forall_mem_cons.mpr ⟨lw_p23, List.forall_mem_cons.mpr ⟨lw_p24, List.forall_mem_cons.mpr ⟨lw_p25, List.forall_mem_cons.mpr ⟨lw_p26, List.forall_mem_cons.mpr ⟨lw_p27, List.forall_mem_cons.mpr ⟨lw_p28, List.forall_mem_cons.mpr ⟨lw_p29, List.forall_mem_cons.mpr ⟨lw_p30, List.forall_mem_cons.mpr ⟨lw_p31, fun _ h => absurd h List.not_mem_nil⟩⟩⟩⟩⟩⟩⟩⟩⟩⟩⟩⟩⟩⟩⟩⟩
theorem lw_p32 : lw_okq (⟨"PacketFieldModel", "enqueue", "(I)V"⟩, 81) := ⟨⟨by decide +kernel, by decide +kernel⟩, List.mem_of_getElem? (i := 901) (by decide +kernel), List.mem_of_getElem? (i := 1237) (by decide +kernel), List.mem_of_getElem? (i := 1238) (by decide +kernel)⟩
theorem lw_p33 : lw_okq (⟨"PacketFieldModel", "count", "(II)V"⟩, 81) := ⟨⟨by decide +kernel, by decide +kernel⟩, List.mem_of_getElem? (i := 901) (by decide +kernel), List.mem_of_getElem? (i := 1241) (by decide +kernel), List.mem_of_getElem? (i := 1242) (by decide +kernel)⟩
theorem lw_p34 : lw_okq (⟨"PacketFieldModel", "tick", "()I"⟩, 81) := ⟨⟨by decide +kernel, by decide +kernel⟩, List.mem_of_getElem? (i := 901) (by decide +kernel), List.mem_of_getElem? (i := 1253) (by decide +kernel), List.mem_of_getElem? (i := 1254) (by decide +kernel)⟩
theorem lw_p35 : lw_okq (⟨"PacketFieldModel", "draws", "(I)V"⟩, 81) := ⟨⟨by decide +kernel, by decide +kernel⟩, List.mem_of_getElem? (i := 901) (by decide +kernel), List.mem_of_getElem? (i := 1257) (by decide +kernel), List.mem_of_getElem? (i := 1258) (by decide +kernel)⟩
theorem lw_p36 : lw_okq (⟨"PacketFieldModel", "lineIs", "(I)V"⟩, 81) := ⟨⟨by decide +kernel, by decide +kernel⟩, List.mem_of_getElem? (i := 901) (by decide +kernel), List.mem_of_getElem? (i := 1262) (by decide +kernel), List.mem_of_getElem? (i := 1263) (by decide +kernel)⟩
theorem lw_p37 : lw_okq (⟨"PacketFieldModel", "sends", "(I)V"⟩, 81) := ⟨⟨by decide +kernel, by decide +kernel⟩, List.mem_of_getElem? (i := 901) (by decide +kernel), List.mem_of_getElem? (i := 1266) (by decide +kernel), List.mem_of_getElem? (i := 1267) (by decide +kernel)⟩
theorem lw_p38 : lw_okq (⟨"PacketFieldModel", "takesFrame", "(I)V"⟩, 81) := ⟨⟨by decide +kernel, by decide +kernel⟩, List.mem_of_getElem? (i := 901) (by decide +kernel), List.mem_of_getElem? (i := 1270) (by decide +kernel), List.mem_of_getElem? (i := 1271) (by decide +kernel)⟩
theorem lw_p39 : lw_okq (⟨"PacketFieldModel", "listens", "(I)Z"⟩, 81) := ⟨⟨by decide +kernel, by decide +kernel⟩, List.mem_of_getElem? (i := 901) (by decide +kernel), List.mem_of_getElem? (i := 1274) (by decide +kernel), List.mem_of_getElem? (i := 1275) (by decide +kernel)⟩
theorem lw_p40 : lw_okq (⟨"PacketFieldModel", "hearNothing", "(I)V"⟩, 81) := ⟨⟨by decide +kernel, by decide +kernel⟩, List.mem_of_getElem? (i := 901) (by decide +kernel), List.mem_of_getElem? (i := 1278) (by decide +kernel), List.mem_of_getElem? (i := 1279) (by decide +kernel)⟩
theorem lw_p41 : lw_okq (⟨"PacketFieldModel", "isStray", "(I)Z"⟩, 81) := ⟨⟨by decide +kernel, by decide +kernel⟩, List.mem_of_getElem? (i := 901) (by decide +kernel), List.mem_of_getElem? (i := 1287) (by decide +kernel), List.mem_of_getElem? (i := 1288) (by decide +kernel)⟩
theorem lw_p42 : lw_okq (⟨"PacketFieldModel", "taken", "(I)V"⟩, 81) := ⟨⟨by decide +kernel, by decide +kernel⟩, List.mem_of_getElem? (i := 901) (by decide +kernel), List.mem_of_getElem? (i := 1291) (by decide +kernel), List.mem_of_getElem? (i := 1292) (by decide +kernel)⟩
theorem lw_p43 : lw_okq (⟨"PacketFieldModel", "isRight", "()Z"⟩, 81) := ⟨⟨by decide +kernel, by decide +kernel⟩, List.mem_of_getElem? (i := 901) (by decide +kernel), List.mem_of_getElem? (i := 1295) (by decide +kernel), List.mem_of_getElem? (i := 1296) (by decide +kernel)⟩
theorem lw_p44 : lw_okq (⟨"PacketFieldModel", "hasAddresses", "()Z"⟩, 81) := ⟨⟨by decide +kernel, by decide +kernel⟩, List.mem_of_getElem? (i := 901) (by decide +kernel), List.mem_of_getElem? (i := 1299) (by decide +kernel), List.mem_of_getElem? (i := 1300) (by decide +kernel)⟩
theorem lw_p45 : lw_okq (⟨"PacketFieldModel", "addressAt", "(I)I"⟩, 81) := ⟨⟨by decide +kernel, by decide +kernel⟩, List.mem_of_getElem? (i := 901) (by decide +kernel), List.mem_of_getElem? (i := 1303) (by decide +kernel), List.mem_of_getElem? (i := 1304) (by decide +kernel)⟩
theorem lw_p46 : lw_okq (⟨"PacketFieldModel", "hasRoutes", "()Z"⟩, 81) := ⟨⟨by decide +kernel, by decide +kernel⟩, List.mem_of_getElem? (i := 901) (by decide +kernel), List.mem_of_getElem? (i := 1310) (by decide +kernel), List.mem_of_getElem? (i := 1311) (by decide +kernel)⟩
theorem lw_p47 : lw_okq (⟨"PacketFieldModel", "areUnlike", "()Z"⟩, 81) := ⟨⟨by decide +kernel, by decide +kernel⟩, List.mem_of_getElem? (i := 901) (by decide +kernel), List.mem_of_getElem? (i := 1314) (by decide +kernel), List.mem_of_getElem? (i := 1315) (by decide +kernel)⟩
def lw_privs_3 : List (MethodName × Nat) := [(⟨"PacketFieldModel", "enqueue", "(I)V"⟩, 81), (⟨"PacketFieldModel", "count", "(II)V"⟩, 81), (⟨"PacketFieldModel", "tick", "()I"⟩, 81), (⟨"PacketFieldModel", "draws", "(I)V"⟩, 81), (⟨"PacketFieldModel", "lineIs", "(I)V"⟩, 81), (⟨"PacketFieldModel", "sends", "(I)V"⟩, 81), (⟨"PacketFieldModel", "takesFrame", "(I)V"⟩, 81), (⟨"PacketFieldModel", "listens", "(I)Z"⟩, 81), (⟨"PacketFieldModel", "hearNothing", "(I)V"⟩, 81), (⟨"PacketFieldModel", "isStray", "(I)Z"⟩, 81), (⟨"PacketFieldModel", "taken", "(I)V"⟩, 81), (⟨"PacketFieldModel", "isRight", "()Z"⟩, 81), (⟨"PacketFieldModel", "hasAddresses", "()Z"⟩, 81), (⟨"PacketFieldModel", "addressAt", "(I)I"⟩, 81), (⟨"PacketFieldModel", "hasRoutes", "()Z"⟩, 81), (⟨"PacketFieldModel", "areUnlike", "()Z"⟩, 81)]
theorem lw_r3 : ∀ q ∈ lw_privs_3, lw_okq q := List.forall_mem_cons.mpr ⟨lw_p32, List.forall_mem_cons.mpr ⟨lw_p33, List.forall_mem_cons.mpr ⟨lw_p34, List.forall_mem_cons.mpr ⟨lw_p35, List.forall_mem_cons.mpr ⟨lw_p36, List.forall_mem_cons.mpr ⟨lw_p37, List.forall_mem_cons.mpr ⟨lw_p38, List.forall_mem_cons.mpr ⟨lw_p39, List.forall_mem_cons.mpr ⟨lw_p40, List.forall_mem_cons.mpr ⟨lw_p41, List.forall_mem_cons.mpr ⟨lw_p42, List.forall_mem_cons.mpr ⟨lw_p43, List.forall_mem_cons.mpr ⟨lw_p44, List.forall_mem_cons.mpr ⟨lw_p45, List.forall_mem_cons.mpr ⟨lw_p46, List.forall_mem_cons.mpr ⟨lw_p47, fun _ h => absurd h List.not_mem_nil⟩⟩⟩⟩⟩⟩⟩⟩⟩⟩⟩⟩⟩⟩⟩⟩
theorem lw_p48 : lw_okq (⟨"PacketFieldModel", "learns", "(I)V"⟩, 81) := ⟨⟨by decide +kernel, by decide +kernel⟩, List.mem_of_getElem? (i := 901) (by decide +kernel), List.mem_of_getElem? (i := 1321) (by decide +kernel), List.mem_of_getElem? (i := 1322) (by decide +kernel)⟩
theorem lw_p49 : lw_okq (⟨"PacketFieldModel", "learn", "(IIII)V"⟩, 81) := ⟨⟨by decide +kernel, by decide +kernel⟩, List.mem_of_getElem? (i := 901) (by decide +kernel), List.mem_of_getElem? (i := 1325) (by decide +kernel), List.mem_of_getElem? (i := 1326) (by decide +kernel)⟩
theorem lw_p50 : lw_okq (⟨"PacketFieldModel", "answers", "(I)V"⟩, 81) := ⟨⟨by decide +kernel, by decide +kernel⟩, List.mem_of_getElem? (i := 901) (by decide +kernel), List.mem_of_getElem? (i := 1329) (by decide +kernel), List.mem_of_getElem? (i := 1330) (by decide +kernel)⟩
theorem lw_p51 : lw_okq (⟨"PacketFieldModel", "comesUp", "(II)V"⟩, 81) := ⟨⟨by decide +kernel, by decide +kernel⟩, List.mem_of_getElem? (i := 901) (by decide +kernel), List.mem_of_getElem? (i := 1333) (by decide +kernel), List.mem_of_getElem? (i := 1334) (by decide +kernel)⟩
theorem lw_p52 : lw_okq (⟨"PacketFieldModel", "answer", "(II)V"⟩, 81) := ⟨⟨by decide +kernel, by decide +kernel⟩, List.mem_of_getElem? (i := 901) (by decide +kernel), List.mem_of_getElem? (i := 1337) (by decide +kernel), List.mem_of_getElem? (i := 1338) (by decide +kernel)⟩
theorem lw_p53 : lw_okq (⟨"PacketFieldModel", "begin", "(IIIIZ)V"⟩, 81) := ⟨⟨by decide +kernel, by decide +kernel⟩, List.mem_of_getElem? (i := 901) (by decide +kernel), List.mem_of_getElem? (i := 1341) (by decide +kernel), List.mem_of_getElem? (i := 1342) (by decide +kernel)⟩
theorem lw_p54 : lw_okq (⟨"PacketFieldModel", "address", "(II)V"⟩, 81) := ⟨⟨by decide +kernel, by decide +kernel⟩, List.mem_of_getElem? (i := 901) (by decide +kernel), List.mem_of_getElem? (i := 1345) (by decide +kernel), List.mem_of_getElem? (i := 1346) (by decide +kernel)⟩
theorem lw_p55 : lw_okq (⟨"PacketFieldModel", "clear", "(I)V"⟩, 81) := ⟨⟨by decide +kernel, by decide +kernel⟩, List.mem_of_getElem? (i := 901) (by decide +kernel), List.mem_of_getElem? (i := 1349) (by decide +kernel), List.mem_of_getElem? (i := 1350) (by decide +kernel)⟩
theorem lw_p56 : lw_okq (⟨"PacketFieldModel", "reset", "(I)V"⟩, 81) := ⟨⟨by decide +kernel, by decide +kernel⟩, List.mem_of_getElem? (i := 901) (by decide +kernel), List.mem_of_getElem? (i := 1353) (by decide +kernel), List.mem_of_getElem? (i := 1354) (by decide +kernel)⟩
theorem lw_p57 : lw_okq (⟨"PacketFieldModel", "goDown", "(I)V"⟩, 81) := ⟨⟨by decide +kernel, by decide +kernel⟩, List.mem_of_getElem? (i := 901) (by decide +kernel), List.mem_of_getElem? (i := 1357) (by decide +kernel), List.mem_of_getElem? (i := 1358) (by decide +kernel)⟩
theorem lw_p58 : lw_okq (⟨"PacketFieldModel", "say", "(IIZI)V"⟩, 81) := ⟨⟨by decide +kernel, by decide +kernel⟩, List.mem_of_getElem? (i := 901) (by decide +kernel), List.mem_of_getElem? (i := 1361) (by decide +kernel), List.mem_of_getElem? (i := 1362) (by decide +kernel)⟩
theorem lw_p59 : lw_okq (⟨"PacketFieldModel", "numbered", "(III)V"⟩, 81) := ⟨⟨by decide +kernel, by decide +kernel⟩, List.mem_of_getElem? (i := 901) (by decide +kernel), List.mem_of_getElem? (i := 1365) (by decide +kernel), List.mem_of_getElem? (i := 1366) (by decide +kernel)⟩
theorem lw_p60 : lw_okq (⟨"PacketFieldModel", "told", "(III)V"⟩, 81) := ⟨⟨by decide +kernel, by decide +kernel⟩, List.mem_of_getElem? (i := 901) (by decide +kernel), List.mem_of_getElem? (i := 1369) (by decide +kernel), List.mem_of_getElem? (i := 1370) (by decide +kernel)⟩
theorem lw_p61 : lw_okq (⟨"PacketFieldModel", "sayNumber", "(IIZIZ)V"⟩, 81) := ⟨⟨by decide +kernel, by decide +kernel⟩, List.mem_of_getElem? (i := 901) (by decide +kernel), List.mem_of_getElem? (i := 1373) (by decide +kernel), List.mem_of_getElem? (i := 1374) (by decide +kernel)⟩
theorem lw_p62 : lw_okq (⟨"PacketFieldModel", "isBusy", "(I)Z"⟩, 81) := ⟨⟨by decide +kernel, by decide +kernel⟩, List.mem_of_getElem? (i := 901) (by decide +kernel), List.mem_of_getElem? (i := 1377) (by decide +kernel), List.mem_of_getElem? (i := 1378) (by decide +kernel)⟩
theorem lw_p63 : lw_okq (⟨"PacketFieldModel", "packetComes", "(I)V"⟩, 81) := ⟨⟨by decide +kernel, by decide +kernel⟩, List.mem_of_getElem? (i := 901) (by decide +kernel), List.mem_of_getElem? (i := 1381) (by decide +kernel), List.mem_of_getElem? (i := 1382) (by decide +kernel)⟩
def lw_privs_4 : List (MethodName × Nat) := [(⟨"PacketFieldModel", "learns", "(I)V"⟩, 81), (⟨"PacketFieldModel", "learn", "(IIII)V"⟩, 81), (⟨"PacketFieldModel", "answers", "(I)V"⟩, 81), (⟨"PacketFieldModel", "comesUp", "(II)V"⟩, 81), (⟨"PacketFieldModel", "answer", "(II)V"⟩, 81), (⟨"PacketFieldModel", "begin", "(IIIIZ)V"⟩, 81), (⟨"PacketFieldModel", "address", "(II)V"⟩, 81), (⟨"PacketFieldModel", "clear", "(I)V"⟩, 81), (⟨"PacketFieldModel", "reset", "(I)V"⟩, 81), (⟨"PacketFieldModel", "goDown", "(I)V"⟩, 81), (⟨"PacketFieldModel", "say", "(IIZI)V"⟩, 81), (⟨"PacketFieldModel", "numbered", "(III)V"⟩, 81), (⟨"PacketFieldModel", "told", "(III)V"⟩, 81), (⟨"PacketFieldModel", "sayNumber", "(IIZIZ)V"⟩, 81), (⟨"PacketFieldModel", "isBusy", "(I)Z"⟩, 81), (⟨"PacketFieldModel", "packetComes", "(I)V"⟩, 81)]
theorem lw_r4 : ∀ q ∈ lw_privs_4, lw_okq q := List.forall_mem_cons.mpr ⟨lw_p48, List.forall_mem_cons.mpr ⟨lw_p49, List.forall_mem_cons.mpr ⟨lw_p50, List.forall_mem_cons.mpr ⟨lw_p51, List.forall_mem_cons.mpr ⟨lw_p52, List.forall_mem_cons.mpr ⟨lw_p53, List.forall_mem_cons.mpr ⟨lw_p54, List.forall_mem_cons.mpr ⟨lw_p55, List.forall_mem_cons.mpr ⟨lw_p56, List.forall_mem_cons.mpr ⟨lw_p57, List.forall_mem_cons.mpr ⟨lw_p58, List.forall_mem_cons.mpr ⟨lw_p59, List.forall_mem_cons.mpr ⟨lw_p60, List.forall_mem_cons.mpr ⟨lw_p61, List.forall_mem_cons.mpr ⟨lw_p62, List.forall_mem_cons.mpr ⟨lw_p63, fun _ h => absurd h List.not_mem_nil⟩⟩⟩⟩⟩⟩⟩⟩⟩⟩⟩⟩⟩⟩⟩⟩
theorem lw_p64 : lw_okq (⟨"PacketFieldModel", "keepLetter", "(I)V"⟩, 81) := ⟨⟨by decide +kernel, by decide +kernel⟩, List.mem_of_getElem? (i := 901) (by decide +kernel), List.mem_of_getElem? (i := 1385) (by decide +kernel), List.mem_of_getElem? (i := 1386) (by decide +kernel)⟩
theorem lw_p65 : lw_okq (⟨"PacketFieldModel", "bestTo", "(II)I"⟩, 81) := ⟨⟨by decide +kernel, by decide +kernel⟩, List.mem_of_getElem? (i := 901) (by decide +kernel), List.mem_of_getElem? (i := 1389) (by decide +kernel), List.mem_of_getElem? (i := 1390) (by decide +kernel)⟩
theorem lw_p66 : lw_okq (⟨"PacketFieldModel", "called", "(II)V"⟩, 81) := ⟨⟨by decide +kernel, by decide +kernel⟩, List.mem_of_getElem? (i := 901) (by decide +kernel), List.mem_of_getElem? (i := 1393) (by decide +kernel), List.mem_of_getElem? (i := 1394) (by decide +kernel)⟩
theorem lw_p67 : lw_okq (⟨"PacketFieldModel", "ready", "(I)I"⟩, 81) := ⟨⟨by decide +kernel, by decide +kernel⟩, List.mem_of_getElem? (i := 901) (by decide +kernel), List.mem_of_getElem? (i := 1397) (by decide +kernel), List.mem_of_getElem? (i := 1398) (by decide +kernel)⟩
theorem lw_p68 : lw_okq (⟨"PacketFieldModel", "supervised", "(IIII)V"⟩, 81) := ⟨⟨by decide +kernel, by decide +kernel⟩, List.mem_of_getElem? (i := 901) (by decide +kernel), List.mem_of_getElem? (i := 1401) (by decide +kernel), List.mem_of_getElem? (i := 1402) (by decide +kernel)⟩
theorem lw_p69 : lw_okq (⟨"PacketFieldModel", "again", "(II)V"⟩, 81) := ⟨⟨by decide +kernel, by decide +kernel⟩, List.mem_of_getElem? (i := 901) (by decide +kernel), List.mem_of_getElem? (i := 1405) (by decide +kernel), List.mem_of_getElem? (i := 1406) (by decide +kernel)⟩
theorem lw_p70 : lw_okq (⟨"PacketFieldModel", "sayAgain", "(III)V"⟩, 81) := ⟨⟨by decide +kernel, by decide +kernel⟩, List.mem_of_getElem? (i := 901) (by decide +kernel), List.mem_of_getElem? (i := 1409) (by decide +kernel), List.mem_of_getElem? (i := 1410) (by decide +kernel)⟩
theorem lw_p71 : lw_okq (⟨"PacketFieldModel", "clockGoes", "(II)V"⟩, 81) := ⟨⟨by decide +kernel, by decide +kernel⟩, List.mem_of_getElem? (i := 901) (by decide +kernel), List.mem_of_getElem? (i := 1413) (by decide +kernel), List.mem_of_getElem? (i := 1414) (by decide +kernel)⟩
theorem lw_p72 : lw_okq (⟨"PacketFieldModel", "tells", "(I)I"⟩, 81) := ⟨⟨by decide +kernel, by decide +kernel⟩, List.mem_of_getElem? (i := 901) (by decide +kernel), List.mem_of_getElem? (i := 1417) (by decide +kernel), List.mem_of_getElem? (i := 1418) (by decide +kernel)⟩
theorem lw_p73 : lw_okq (⟨"PacketFieldModel", "maySay", "(II)V"⟩, 81) := ⟨⟨by decide +kernel, by decide +kernel⟩, List.mem_of_getElem? (i := 901) (by decide +kernel), List.mem_of_getElem? (i := 1421) (by decide +kernel), List.mem_of_getElem? (i := 1422) (by decide +kernel)⟩
theorem lw_p74 : lw_okq (⟨"PacketFieldModel", "dropPacket", "(I)V"⟩, 81) := ⟨⟨by decide +kernel, by decide +kernel⟩, List.mem_of_getElem? (i := 901) (by decide +kernel), List.mem_of_getElem? (i := 1425) (by decide +kernel), List.mem_of_getElem? (i := 1426) (by decide +kernel)⟩
theorem lw_p75 : lw_okq (⟨"PacketFieldModel", "dropOut", "(II)V"⟩, 81) := ⟨⟨by decide +kernel, by decide +kernel⟩, List.mem_of_getElem? (i := 901) (by decide +kernel), List.mem_of_getElem? (i := 1429) (by decide +kernel), List.mem_of_getElem? (i := 1430) (by decide +kernel)⟩
def lw_privs_5 : List (MethodName × Nat) := [(⟨"PacketFieldModel", "keepLetter", "(I)V"⟩, 81), (⟨"PacketFieldModel", "bestTo", "(II)I"⟩, 81), (⟨"PacketFieldModel", "called", "(II)V"⟩, 81), (⟨"PacketFieldModel", "ready", "(I)I"⟩, 81), (⟨"PacketFieldModel", "supervised", "(IIII)V"⟩, 81), (⟨"PacketFieldModel", "again", "(II)V"⟩, 81), (⟨"PacketFieldModel", "sayAgain", "(III)V"⟩, 81), (⟨"PacketFieldModel", "clockGoes", "(II)V"⟩, 81), (⟨"PacketFieldModel", "tells", "(I)I"⟩, 81), (⟨"PacketFieldModel", "maySay", "(II)V"⟩, 81), (⟨"PacketFieldModel", "dropPacket", "(I)V"⟩, 81), (⟨"PacketFieldModel", "dropOut", "(II)V"⟩, 81)]
theorem lw_r5 : ∀ q ∈ lw_privs_5, lw_okq q := List.forall_mem_cons.mpr ⟨lw_p64, List.forall_mem_cons.mpr ⟨lw_p65, List.forall_mem_cons.mpr ⟨lw_p66, List.forall_mem_cons.mpr ⟨lw_p67, List.forall_mem_cons.mpr ⟨lw_p68, List.forall_mem_cons.mpr ⟨lw_p69, List.forall_mem_cons.mpr ⟨lw_p70, List.forall_mem_cons.mpr ⟨lw_p71, List.forall_mem_cons.mpr ⟨lw_p72, List.forall_mem_cons.mpr ⟨lw_p73, List.forall_mem_cons.mpr ⟨lw_p74, List.forall_mem_cons.mpr ⟨lw_p75, fun _ h => absurd h List.not_mem_nil⟩⟩⟩⟩⟩⟩⟩⟩⟩⟩⟩⟩
def lw_privs : List (MethodName × Nat) := lw_privs_1 ++ (lw_privs_2 ++ (lw_privs_3 ++ (lw_privs_4 ++ (lw_privs_5))))
def lw_tbl : List Cond := k2_sels lw_privs ++ tables_1
theorem lw_privs_ok : ∀ q ∈ lw_privs, lw_okq q := by
  show ∀ q ∈ lw_privs_1 ++ (lw_privs_2 ++ (lw_privs_3 ++ (lw_privs_4 ++ (lw_privs_5)))), lw_okq q
  exact List.forall_mem_append.mpr ⟨lw_r1, List.forall_mem_append.mpr ⟨lw_r2, List.forall_mem_append.mpr ⟨lw_r3, List.forall_mem_append.mpr ⟨lw_r4, lw_r5⟩⟩⟩⟩

def RX0 : String := "PacketField$Bytes"
def TX0 : u_T := fun k => match k with
  | 0 => ("PacketField$Bytes", "cells", "[I", true)
  | _ => ("PacketField$Bytes", "size", "I", false)
def tyX0 : Nat → FieldType := fun k => match k with
  | 0 => .array .int
  | _ => .int
theorem nmX0 : ∀ a, a < 2 → ∀ b, b < 2 → a ≠ b → (TX0 a).2.1 ≠ (TX0 b).2.1 := by decide +kernel
theorem tyX0_ok : ∀ k, k < 2 → parseFieldDescriptor (TX0 k).2.2.1 = some (tyX0 k) := by decide +kernel
def RX1 : String := "PacketField$Frame"
def TX1 : u_T := fun k => match k with
  | 0 => ("PacketField$Frame", "to", "I", false)
  | 1 => ("PacketField$Frame", "from", "I", false)
  | 2 => ("PacketField$Frame", "addresses", "I", false)
  | 3 => ("PacketField$Frame", "nextVia", "I", false)
  | 4 => ("PacketField$Frame", "command", "Z", false)
  | 5 => ("PacketField$Frame", "kind", "I", false)
  | 6 => ("PacketField$Frame", "pollBit", "I", false)
  | 7 => ("PacketField$Frame", "\x72", "I", false)
  | 8 => ("PacketField$Frame", "t", "I", false)
  | 9 => ("PacketField$Frame", "content", "I", false)
  | 10 => ("PacketField$Frame", "start", "I", false)
  | _ => ("PacketField$Frame", "answer", "LPacketField$Path;", true)
def tyX1 : Nat → FieldType := fun k => match k with
  | 0 => .int
  | 1 => .int
  | 2 => .int
  | 3 => .int
  | 4 => .boolean
  | 5 => .int
  | 6 => .int
  | 7 => .int
  | 8 => .int
  | 9 => .int
  | 10 => .int
  | _ => .object "PacketField$Path"
theorem nmX1 : ∀ a, a < 12 → ∀ b, b < 12 → a ≠ b → (TX1 a).2.1 ≠ (TX1 b).2.1 := by decide +kernel
theorem tyX1_ok : ∀ k, k < 12 → parseFieldDescriptor (TX1 k).2.2.1 = some (tyX1 k) := by decide +kernel
def RX2 : String := "PacketField$Link"
def TX2 : u_T := fun k => match k with
  | 0 => ("PacketField$Link", "owner", "LPacketField$Station;", true)
  | 1 => ("PacketField$Link", "other", "I", true)
  | 2 => ("PacketField$Link", "path", "LPacketField$Path;", true)
  | 3 => ("PacketField$Link", "outbox", "LPacketField$Bytes;", true)
  | 4 => ("PacketField$Link", "inbox", "LPacketField$Bytes;", true)
  | 5 => ("PacketField$Link", "packets", "LPacketField$Rows;", true)
  | 6 => ("PacketField$Link", "sent", "LPacketField$Rows;", true)
  | 7 => ("PacketField$Link", "mode", "I", false)
  | 8 => ("PacketField$Link", "vs", "I", false)
  | 9 => ("PacketField$Link", "va", "I", false)
  | 10 => ("PacketField$Link", "vr", "I", false)
  | 11 => ("PacketField$Link", "clock", "I", false)
  | 12 => ("PacketField$Link", "tries", "I", false)
  | 13 => ("PacketField$Link", "polls", "Z", false)
  | 14 => ("PacketField$Link", "rejects", "Z", false)
  | 15 => ("PacketField$Link", "held", "Z", false)
  | 16 => ("PacketField$Link", "calls", "I", false)
  | _ => ("PacketField$Link", "seen", "I", false)
def tyX2 : Nat → FieldType := fun k => match k with
  | 0 => .object "PacketField$Station"
  | 1 => .int
  | 2 => .object "PacketField$Path"
  | 3 => .object "PacketField$Bytes"
  | 4 => .object "PacketField$Bytes"
  | 5 => .object "PacketField$Rows"
  | 6 => .object "PacketField$Rows"
  | 7 => .int
  | 8 => .int
  | 9 => .int
  | 10 => .int
  | 11 => .int
  | 12 => .int
  | 13 => .boolean
  | 14 => .boolean
  | 15 => .boolean
  | 16 => .int
  | _ => .int
theorem nmX2 : ∀ a, a < 18 → ∀ b, b < 18 → a ≠ b → (TX2 a).2.1 ≠ (TX2 b).2.1 := by decide +kernel
theorem tyX2_ok : ∀ k, k < 18 → parseFieldDescriptor (TX2 k).2.2.1 = some (tyX2 k) := by decide +kernel
def RX3 : String := "PacketField$Path"
def TX3 : u_T := fun k => match k with
  | 0 => ("PacketField$Path", "to", "I", false)
  | 1 => ("PacketField$Path", "firstVia", "I", false)
  | 2 => ("PacketField$Path", "secondVia", "I", false)
  | _ => ("PacketField$Path", "mark", "I", false)
def tyX3 : Nat → FieldType := fun k => match k with
  | 0 => .int
  | 1 => .int
  | 2 => .int
  | _ => .int
theorem nmX3 : ∀ a, a < 4 → ∀ b, b < 4 → a ≠ b → (TX3 a).2.1 ≠ (TX3 b).2.1 := by decide +kernel
theorem tyX3_ok : ∀ k, k < 4 → parseFieldDescriptor (TX3 k).2.2.1 = some (tyX3 k) := by decide +kernel
def RX4 : String := "PacketField$Receiver"
def TX4 : u_T := fun k => match k with
  | 0 => ("PacketField$Receiver", "row", "LPacketField$Bytes;", true)
  | 1 => ("PacketField$Receiver", "rowBits", "I", false)
  | 2 => ("PacketField$Receiver", "open", "Z", false)
  | 3 => ("PacketField$Receiver", "last", "I", false)
  | 4 => ("PacketField$Receiver", "ones", "I", false)
  | _ => ("PacketField$Receiver", "frame", "LPacketField$Bytes;", true)
def tyX4 : Nat → FieldType := fun k => match k with
  | 0 => .object "PacketField$Bytes"
  | 1 => .int
  | 2 => .boolean
  | 3 => .int
  | 4 => .int
  | _ => .object "PacketField$Bytes"
theorem nmX4 : ∀ a, a < 6 → ∀ b, b < 6 → a ≠ b → (TX4 a).2.1 ≠ (TX4 b).2.1 := by decide +kernel
theorem tyX4_ok : ∀ k, k < 6 → parseFieldDescriptor (TX4 k).2.2.1 = some (tyX4 k) := by decide +kernel
def RX5 : String := "PacketField$Routes"
def TX5 : u_T := fun k => match k with
  | 0 => ("PacketField$Routes", "self", "I", true)
  | 1 => ("PacketField$Routes", "qualities", "[I", true)
  | _ => ("PacketField$Routes", "ages", "[I", true)
def tyX5 : Nat → FieldType := fun k => match k with
  | 0 => .int
  | 1 => .array .int
  | _ => .array .int
theorem nmX5 : ∀ a, a < 3 → ∀ b, b < 3 → a ≠ b → (TX5 a).2.1 ≠ (TX5 b).2.1 := by decide +kernel
theorem tyX5_ok : ∀ k, k < 3 → parseFieldDescriptor (TX5 k).2.2.1 = some (tyX5 k) := by decide +kernel
def RX6 : String := "PacketField$Rows"
def TX6 : u_T := fun k => match k with
  | 0 => ("PacketField$Rows", "rows", "[LPacketField$Bytes;", true)
  | 1 => ("PacketField$Rows", "first", "I", false)
  | _ => ("PacketField$Rows", "count", "I", false)
def tyX6 : Nat → FieldType := fun k => match k with
  | 0 => .array (.object "PacketField$Bytes")
  | 1 => .int
  | _ => .int
theorem nmX6 : ∀ a, a < 3 → ∀ b, b < 3 → a ≠ b → (TX6 a).2.1 ≠ (TX6 b).2.1 := by decide +kernel
theorem tyX6_ok : ∀ k, k < 3 → parseFieldDescriptor (TX6 k).2.2.1 = some (tyX6 k) := by decide +kernel
def RX7 : String := "PacketField$Sender"
def TX7 : u_T := fun k => match k with
  | 0 => ("PacketField$Sender", "content", "LPacketField$Bytes;", true)
  | 1 => ("PacketField$Sender", "position", "I", false)
  | 2 => ("PacketField$Sender", "ones", "I", false)
  | 3 => ("PacketField$Sender", "flagBits", "I", false)
  | 4 => ("PacketField$Sender", "level", "I", false)
  | 5 => ("PacketField$Sender", "sending", "Z", false)
  | _ => ("PacketField$Sender", "had", "I", false)
def tyX7 : Nat → FieldType := fun k => match k with
  | 0 => .object "PacketField$Bytes"
  | 1 => .int
  | 2 => .int
  | 3 => .int
  | 4 => .int
  | 5 => .boolean
  | _ => .int
theorem nmX7 : ∀ a, a < 7 → ∀ b, b < 7 → a ≠ b → (TX7 a).2.1 ≠ (TX7 b).2.1 := by decide +kernel
theorem tyX7_ok : ∀ k, k < 7 → parseFieldDescriptor (TX7 k).2.2.1 = some (tyX7 k) := by decide +kernel
def RX8 : String := "PacketField$Station"
def TX8 : u_T := fun k => match k with
  | 0 => ("PacketField$Station", "number", "I", true)
  | 1 => ("PacketField$Station", "settings", "[I", true)
  | 2 => ("PacketField$Station", "sender", "LPacketField$Sender;", true)
  | 3 => ("PacketField$Station", "receiver", "LPacketField$Receiver;", true)
  | 4 => ("PacketField$Station", "queue", "LPacketField$Rows;", true)
  | 5 => ("PacketField$Station", "mailbox", "LPacketField$Rows;", true)
  | 6 => ("PacketField$Station", "links", "[LPacketField$Link;", true)
  | 7 => ("PacketField$Station", "routes", "LPacketField$Routes;", true)
  | 8 => ("PacketField$Station", "hearing", "I", false)
  | 9 => ("PacketField$Station", "wait", "I", false)
  | 10 => ("PacketField$Station", "carrier", "Z", false)
  | 11 => ("PacketField$Station", "awake", "I", false)
  | 12 => ("PacketField$Station", "letters", "I", false)
  | 13 => ("PacketField$Station", "gone", "I", false)
  | 14 => ("PacketField$Station", "arrived", "I", false)
  | 15 => ("PacketField$Station", "strays", "I", false)
  | 16 => ("PacketField$Station", "bad", "I", false)
  | _ => ("PacketField$Station", "lost", "I", false)
def tyX8 : Nat → FieldType := fun k => match k with
  | 0 => .int
  | 1 => .array .int
  | 2 => .object "PacketField$Sender"
  | 3 => .object "PacketField$Receiver"
  | 4 => .object "PacketField$Rows"
  | 5 => .object "PacketField$Rows"
  | 6 => .array (.object "PacketField$Link")
  | 7 => .object "PacketField$Routes"
  | 8 => .int
  | 9 => .int
  | 10 => .boolean
  | 11 => .int
  | 12 => .int
  | 13 => .int
  | 14 => .int
  | 15 => .int
  | 16 => .int
  | _ => .int
theorem nmX8 : ∀ a, a < 18 → ∀ b, b < 18 → a ≠ b → (TX8 a).2.1 ≠ (TX8 b).2.1 := by decide +kernel
theorem tyX8_ok : ∀ k, k < 18 → parseFieldDescriptor (TX8 k).2.2.1 = some (tyX8 k) := by decide +kernel
def RX9 : String := "PacketField"
def TX9 : u_T := fun k => match k with
  | 0 => ("PacketField", "stations", "[LPacketField$Station;", true)
  | 1 => ("PacketField", "tape", "LPacketField$Bytes;", true)
  | 2 => ("PacketField", "outRow", "LPacketField$Bytes;", true)
  | 3 => ("PacketField", "ownSender", "LPacketField$Sender;", true)
  | 4 => ("PacketField", "ownReceiver", "LPacketField$Receiver;", true)
  | 5 => ("PacketField", "ownPacket", "LPacketField$Bytes;", true)
  | 6 => ("PacketField", "taken", "LPacketField$Frame;", true)
  | 7 => ("PacketField", "ticks", "I", false)
  | 8 => ("PacketField", "onAir", "I", false)
  | 9 => ("PacketField", "levels", "I", false)
  | _ => ("PacketField", "ended", "I", false)
def tyX9 : Nat → FieldType := fun k => match k with
  | 0 => .array (.object "PacketField$Station")
  | 1 => .object "PacketField$Bytes"
  | 2 => .object "PacketField$Bytes"
  | 3 => .object "PacketField$Sender"
  | 4 => .object "PacketField$Receiver"
  | 5 => .object "PacketField$Bytes"
  | 6 => .object "PacketField$Frame"
  | 7 => .int
  | 8 => .int
  | 9 => .int
  | _ => .int
theorem nmX9 : ∀ a, a < 11 → ∀ b, b < 11 → a ≠ b → (TX9 a).2.1 ≠ (TX9 b).2.1 := by decide +kernel
theorem tyX9_ok : ∀ k, k < 11 → parseFieldDescriptor (TX9 k).2.2.1 = some (tyX9 k) := by decide +kernel
def RX10 : String := "PacketFieldModel"
def TX10 : u_T := fun k => match k with
  | 0 => ("PacketFieldModel", "tape", "[I", true)
  | 1 => ("PacketFieldModel", "taped", "I", false)
  | 2 => ("PacketFieldModel", "out", "[I", true)
  | 3 => ("PacketFieldModel", "outSize", "I", false)
  | 4 => ("PacketFieldModel", "made", "[I", true)
  | 5 => ("PacketFieldModel", "madeSize", "I", false)
  | 6 => ("PacketFieldModel", "inARow", "I", false)
  | 7 => ("PacketFieldModel", "last", "[I", true)
  | 8 => ("PacketFieldModel", "ones", "[I", true)
  | 9 => ("PacketFieldModel", "open", "[Z", true)
  | 10 => ("PacketFieldModel", "rowSize", "[I", true)
  | 11 => ("PacketFieldModel", "row", "[I", true)
  | 12 => ("PacketFieldModel", "cameSize", "[I", true)
  | 13 => ("PacketFieldModel", "came", "[I", true)
  | 14 => ("PacketFieldModel", "bytes", "[I", true)
  | 15 => ("PacketFieldModel", "time", "I", false)
  | 16 => ("PacketFieldModel", "tuned", "[I", true)
  | 17 => ("PacketFieldModel", "hears", "[Z", true)
  | 18 => ("PacketFieldModel", "queueSize", "[I", true)
  | 19 => ("PacketFieldModel", "queueLong", "[I", true)
  | 20 => ("PacketFieldModel", "queue", "[I", true)
  | 21 => ("PacketFieldModel", "wait", "[I", true)
  | 22 => ("PacketFieldModel", "carrier", "[Z", true)
  | 23 => ("PacketFieldModel", "level", "[I", true)
  | 24 => ("PacketFieldModel", "sending", "[Z", true)
  | 25 => ("PacketFieldModel", "lineSize", "[I", true)
  | 26 => ("PacketFieldModel", "lineAt", "[I", true)
  | 27 => ("PacketFieldModel", "line", "[I", true)
  | 28 => ("PacketFieldModel", "had", "[I", true)
  | 29 => ("PacketFieldModel", "sentLong", "[I", true)
  | 30 => ("PacketFieldModel", "sent", "[I", true)
  | 31 => ("PacketFieldModel", "through", "[Z", true)
  | 32 => ("PacketFieldModel", "counts", "[I", true)
  | 33 => ("PacketFieldModel", "frame", "[I", true)
  | 34 => ("PacketFieldModel", "frameSize", "I", false)
  | 35 => ("PacketFieldModel", "arrived", "[Z", true)
  | 36 => ("PacketFieldModel", "at0", "[I", true)
  | 37 => ("PacketFieldModel", "atSize", "I", false)
  | 38 => ("PacketFieldModel", "to", "I", false)
  | 39 => ("PacketFieldModel", "from", "I", false)
  | 40 => ("PacketFieldModel", "vias", "I", false)
  | 41 => ("PacketFieldModel", "control", "I", false)
  | 42 => ("PacketFieldModel", "mark0", "I", false)
  | 43 => ("PacketFieldModel", "text", "I", false)
  | 44 => ("PacketFieldModel", "isCommand", "Z", false)
  | 45 => ("PacketFieldModel", "ends", "Z", false)
  | 46 => ("PacketFieldModel", "via", "[I", true)
  | 47 => ("PacketFieldModel", "repeated", "[Z", true)
  | 48 => ("PacketFieldModel", "seventh", "I", false)
  | 49 => ("PacketFieldModel", "mode", "[I", true)
  | 50 => ("PacketFieldModel", "viaOne", "[I", true)
  | 51 => ("PacketFieldModel", "viaTwo", "[I", true)
  | 52 => ("PacketFieldModel", "mark", "[I", true)
  | 53 => ("PacketFieldModel", "vs", "[I", true)
  | 54 => ("PacketFieldModel", "va", "[I", true)
  | 55 => ("PacketFieldModel", "vr", "[I", true)
  | 56 => ("PacketFieldModel", "clock", "[I", true)
  | 57 => ("PacketFieldModel", "tries", "[I", true)
  | 58 => ("PacketFieldModel", "polls", "[Z", true)
  | 59 => ("PacketFieldModel", "rejects", "[Z", true)
  | 60 => ("PacketFieldModel", "held", "[Z", true)
  | 61 => ("PacketFieldModel", "calls", "[I", true)
  | 62 => ("PacketFieldModel", "seen", "[I", true)
  | 63 => ("PacketFieldModel", "outbox", "[I", true)
  | 64 => ("PacketFieldModel", "outboxSize", "[I", true)
  | 65 => ("PacketFieldModel", "inbox", "[I", true)
  | 66 => ("PacketFieldModel", "inboxSize", "[I", true)
  | 67 => ("PacketFieldModel", "packets", "[I", true)
  | 68 => ("PacketFieldModel", "packetLong", "[I", true)
  | 69 => ("PacketFieldModel", "packetMany", "[I", true)
  | 70 => ("PacketFieldModel", "said", "[I", true)
  | 71 => ("PacketFieldModel", "saidLong", "[I", true)
  | 72 => ("PacketFieldModel", "saidKind", "[I", true)
  | 73 => ("PacketFieldModel", "saidMany", "[I", true)
  | 74 => ("PacketFieldModel", "quality", "[I", true)
  | 75 => ("PacketFieldModel", "age", "[I", true)
  | 76 => ("PacketFieldModel", "packet", "[I", true)
  | 77 => ("PacketFieldModel", "packetSize", "I", false)
  | 78 => ("PacketFieldModel", "mails", "[I", true)
  | 79 => ("PacketFieldModel", "mail", "[I", true)
  | _ => ("PacketFieldModel", "written", "[I", true)
def tyX10 : Nat → FieldType := fun k => match k with
  | 0 => .array .int
  | 1 => .int
  | 2 => .array .int
  | 3 => .int
  | 4 => .array .int
  | 5 => .int
  | 6 => .int
  | 7 => .array .int
  | 8 => .array .int
  | 9 => .array .boolean
  | 10 => .array .int
  | 11 => .array .int
  | 12 => .array .int
  | 13 => .array .int
  | 14 => .array .int
  | 15 => .int
  | 16 => .array .int
  | 17 => .array .boolean
  | 18 => .array .int
  | 19 => .array .int
  | 20 => .array .int
  | 21 => .array .int
  | 22 => .array .boolean
  | 23 => .array .int
  | 24 => .array .boolean
  | 25 => .array .int
  | 26 => .array .int
  | 27 => .array .int
  | 28 => .array .int
  | 29 => .array .int
  | 30 => .array .int
  | 31 => .array .boolean
  | 32 => .array .int
  | 33 => .array .int
  | 34 => .int
  | 35 => .array .boolean
  | 36 => .array .int
  | 37 => .int
  | 38 => .int
  | 39 => .int
  | 40 => .int
  | 41 => .int
  | 42 => .int
  | 43 => .int
  | 44 => .boolean
  | 45 => .boolean
  | 46 => .array .int
  | 47 => .array .boolean
  | 48 => .int
  | 49 => .array .int
  | 50 => .array .int
  | 51 => .array .int
  | 52 => .array .int
  | 53 => .array .int
  | 54 => .array .int
  | 55 => .array .int
  | 56 => .array .int
  | 57 => .array .int
  | 58 => .array .boolean
  | 59 => .array .boolean
  | 60 => .array .boolean
  | 61 => .array .int
  | 62 => .array .int
  | 63 => .array .int
  | 64 => .array .int
  | 65 => .array .int
  | 66 => .array .int
  | 67 => .array .int
  | 68 => .array .int
  | 69 => .array .int
  | 70 => .array .int
  | 71 => .array .int
  | 72 => .array .int
  | 73 => .array .int
  | 74 => .array .int
  | 75 => .array .int
  | 76 => .array .int
  | 77 => .int
  | 78 => .array .int
  | 79 => .array .int
  | _ => .array .int
theorem nmX10 : ∀ a, a < 81 → ∀ b, b < 81 → a ≠ b → (TX10 a).2.1 ≠ (TX10 b).2.1 := by decide +kernel
theorem tyX10_ok : ∀ k, k < 81 → parseFieldDescriptor (TX10 k).2.2.1 = some (tyX10 k) := by decide +kernel
abbrev vwCl : List vw_C := [(RX0, TX0, 2), (RX1, TX1, 12), (RX2, TX2, 18), (RX3, TX3, 4), (RX4, TX4, 6), (RX5, TX5, 3), (RX6, TX6, 3), (RX7, TX7, 7), (RX8, TX8, 18), (RX9, TX9, 11), (RX10, TX10, 81)]
/-! words, types, statics -/
def mtb : List Cond := lw_tbl.filter goodWord
theorem mtb_in {w : Cond} (h : w ∈ lw_tbl) (g : goodWord w = true) : w ∈ mtb := List.mem_filter.mpr ⟨h, g⟩
theorem mtb_of {w : Cond} (h : w ∈ mtb) : w ∈ lw_tbl := (List.mem_filter.mp h).1
theorem tb_1 {w : Cond} (h : w ∈ tables_1_1) : w ∈ lw_tbl := List.mem_append_right _ (List.mem_append_left _ h)
theorem tb_2 {w : Cond} (h : w ∈ tables_1_2) : w ∈ lw_tbl := List.mem_append_right _ (List.mem_append_right _ (List.mem_append_left _ h))
theorem tb_3 {w : Cond} (h : w ∈ tables_1_3) : w ∈ lw_tbl := List.mem_append_right _ (List.mem_append_right _ (List.mem_append_right _ (List.mem_append_left _ h)))
theorem tb_4 {w : Cond} (h : w ∈ tables_1_4) : w ∈ lw_tbl := List.mem_append_right _ (List.mem_append_right _ (List.mem_append_right _ (List.mem_append_right _ (List.mem_append_left _ h))))
theorem tb_5 {w : Cond} (h : w ∈ tables_1_5) : w ∈ lw_tbl := List.mem_append_right _ (List.mem_append_right _ (List.mem_append_right _ (List.mem_append_right _ (List.mem_append_right _ (List.mem_append_left _ h)))))
theorem tb_6 {w : Cond} (h : w ∈ tables_1_6) : w ∈ lw_tbl := List.mem_append_right _ (List.mem_append_right _ (List.mem_append_right _ (List.mem_append_right _ (List.mem_append_right _ (List.mem_append_right _ (List.mem_append_left _ h))))))
theorem tb_7 {w : Cond} (h : w ∈ tables_1_7) : w ∈ lw_tbl := List.mem_append_right _ (List.mem_append_right _ (List.mem_append_right _ (List.mem_append_right _ (List.mem_append_right _ (List.mem_append_right _ (List.mem_append_right _ (h)))))))
def mft (c j : Nat) : FieldType := match c with
  | 0 => tyX0 j
  | 1 => tyX1 j
  | 2 => tyX2 j
  | 3 => tyX3 j
  | 4 => tyX4 j
  | 5 => tyX5 j
  | 6 => tyX6 j
  | 7 => tyX7 j
  | 8 => tyX8 j
  | 9 => tyX9 j
  | _ => tyX10 j
def mtl : List FieldType := [.int, .boolean, .object "PacketField$Bytes", .object "PacketField$Link", .object "PacketField$Station"]
def mst : List (Nat × String × String × String) := [(1, "PacketField", "LEAST", "[I"), (2, "PacketField", "MOST", "[I"), (3, "PacketField", "STATION_NAME", "[I"), (4, "PacketField", "NODES_NAME", "[I")]
def mtV (q : Nat) : List Int32 := match q with
  | 1 => [0, 1, 1, -2147483648, 100, 1, 200, 0, -2147483648]
  | 2 => [256, 200, 16, 2147483647, 20000, 255, 20000, 4096, 2147483647]
  | 3 => [140, 146, 138, 152, 136, 64]
  | 4 => [156, 158, 136, 138, 166, 64]
  | _ => []
def mtN (q : Nat) : Nat := (mtV q).length
def mtF (q j : Nat) : Int32 := (mtV q).getD j 0
def mnw : List Cond := [
  (Jvm.Cond.arrayOver (Jvm.ClassFile.FieldType.object "PacketField$Station")),
  (Jvm.Cond.fieldLinkNest "PacketField$Station" (15 : Nat) "PacketField" "LEAST" "[I" "PacketField"),
  (Jvm.Cond.arrayOver (Jvm.ClassFile.FieldType.object "PacketField$Bytes")),
  (Jvm.Cond.arrayOver (Jvm.ClassFile.FieldType.object "PacketField$Link")),
  (Jvm.Cond.methodLinkNest "PacketField$Link" (21 : Nat) ({ cls := "PacketField$Path", name := "<init>", desc := "()V" } : Jvm.MethodName) "PacketField"),
  (Jvm.Cond.methodLinkNest "PacketField" (56 : Nat) ({ cls := "PacketField$Frame", name := "<init>", desc := "()V" } : Jvm.MethodName) "PacketField"),
  (Jvm.Cond.methodLinkNest "PacketField$Frame" (11 : Nat) ({ cls := "PacketField$Path", name := "<init>", desc := "()V" } : Jvm.MethodName) "PacketField"),
  (Jvm.Cond.methodLinkNest "PacketField$Sender" (43 : Nat) ({ cls := "PacketField", name := "checkOf", desc := "(LPacketField$Bytes;I)I" } : Jvm.MethodName) "PacketField"),
  (Jvm.Cond.methodLinkNest "PacketField$Receiver" (64 : Nat) ({ cls := "PacketField", name := "checkOf", desc := "(LPacketField$Bytes;I)I" } : Jvm.MethodName) "PacketField"),
  (Jvm.Cond.methodLinkNest "PacketField$Routes" (22 : Nat) ({ cls := "PacketField", name := "isStation", desc := "(I)Z" } : Jvm.MethodName) "PacketField"),
  (Jvm.Cond.fieldLinkNest "PacketField$Frame" (69 : Nat) "PacketField" "NODES_NAME" "[I" "PacketField"),
  (Jvm.Cond.methodLinkNest "PacketField$Frame" (77 : Nat) ({ cls := "PacketField", name := "isStation", desc := "(I)Z" } : Jvm.MethodName) "PacketField"),
  (Jvm.Cond.fieldLinkNest "PacketField$Frame" (81 : Nat) "PacketField" "STATION_NAME" "[I" "PacketField")]
def mCl (c : Nat) (C : String) (T : u_T) (N : Nat) : Prop := vwCl[c]? = some (C, T, N) ∧ (∀ w ∈ u_ws C T N, w ∈ mtb) ∧ (∀ k, k < N → parseFieldDescriptor (T k).2.2.1 = some (mft c k)) ∧ ∀ a, a < N → ∀ b, b < N → a ≠ b → (T a).2.1 ≠ (T b).2.1
theorem cf_0 : ∀ w ∈ u_ws RX0 TX0 2, w ∈ lw_tbl := by decide +kernel
theorem cg_0 : (u_ws RX0 TX0 2).all goodWord = true := by decide +kernel
theorem mcl_0 : mCl 0 RX0 TX0 2 := ⟨rfl, fun w h => mtb_in (cf_0 w h) (List.all_eq_true.mp cg_0 w h), tyX0_ok, nmX0⟩
theorem cf_1 : ∀ w ∈ u_ws RX1 TX1 12, w ∈ lw_tbl := by decide +kernel
theorem cg_1 : (u_ws RX1 TX1 12).all goodWord = true := by decide +kernel
theorem mcl_1 : mCl 1 RX1 TX1 12 := ⟨rfl, fun w h => mtb_in (cf_1 w h) (List.all_eq_true.mp cg_1 w h), tyX1_ok, nmX1⟩
theorem cf_2 : ∀ w ∈ u_ws RX2 TX2 18, w ∈ lw_tbl := by decide +kernel
theorem cg_2 : (u_ws RX2 TX2 18).all goodWord = true := by decide +kernel
theorem mcl_2 : mCl 2 RX2 TX2 18 := ⟨rfl, fun w h => mtb_in (cf_2 w h) (List.all_eq_true.mp cg_2 w h), tyX2_ok, nmX2⟩
theorem cf_3 : ∀ w ∈ u_ws RX3 TX3 4, w ∈ lw_tbl := by decide +kernel
theorem cg_3 : (u_ws RX3 TX3 4).all goodWord = true := by decide +kernel
theorem mcl_3 : mCl 3 RX3 TX3 4 := ⟨rfl, fun w h => mtb_in (cf_3 w h) (List.all_eq_true.mp cg_3 w h), tyX3_ok, nmX3⟩
theorem cf_4 : ∀ w ∈ u_ws RX4 TX4 6, w ∈ lw_tbl := by decide +kernel
theorem cg_4 : (u_ws RX4 TX4 6).all goodWord = true := by decide +kernel
theorem mcl_4 : mCl 4 RX4 TX4 6 := ⟨rfl, fun w h => mtb_in (cf_4 w h) (List.all_eq_true.mp cg_4 w h), tyX4_ok, nmX4⟩
theorem cf_5 : ∀ w ∈ u_ws RX5 TX5 3, w ∈ lw_tbl := by decide +kernel
theorem cg_5 : (u_ws RX5 TX5 3).all goodWord = true := by decide +kernel
theorem mcl_5 : mCl 5 RX5 TX5 3 := ⟨rfl, fun w h => mtb_in (cf_5 w h) (List.all_eq_true.mp cg_5 w h), tyX5_ok, nmX5⟩
theorem cf_6 : ∀ w ∈ u_ws RX6 TX6 3, w ∈ lw_tbl := by decide +kernel
theorem cg_6 : (u_ws RX6 TX6 3).all goodWord = true := by decide +kernel
theorem mcl_6 : mCl 6 RX6 TX6 3 := ⟨rfl, fun w h => mtb_in (cf_6 w h) (List.all_eq_true.mp cg_6 w h), tyX6_ok, nmX6⟩
theorem cf_7 : ∀ w ∈ u_ws RX7 TX7 7, w ∈ lw_tbl := by decide +kernel
theorem cg_7 : (u_ws RX7 TX7 7).all goodWord = true := by decide +kernel
theorem mcl_7 : mCl 7 RX7 TX7 7 := ⟨rfl, fun w h => mtb_in (cf_7 w h) (List.all_eq_true.mp cg_7 w h), tyX7_ok, nmX7⟩
theorem cf_8 : ∀ w ∈ u_ws RX8 TX8 18, w ∈ lw_tbl := by decide +kernel
theorem cg_8 : (u_ws RX8 TX8 18).all goodWord = true := by decide +kernel
theorem mcl_8 : mCl 8 RX8 TX8 18 := ⟨rfl, fun w h => mtb_in (cf_8 w h) (List.all_eq_true.mp cg_8 w h), tyX8_ok, nmX8⟩
theorem cf_9 : ∀ w ∈ u_ws RX9 TX9 11, w ∈ lw_tbl := by decide +kernel
theorem cg_9 : (u_ws RX9 TX9 11).all goodWord = true := by decide +kernel
theorem mcl_9 : mCl 9 RX9 TX9 11 := ⟨rfl, fun w h => mtb_in (cf_9 w h) (List.all_eq_true.mp cg_9 w h), tyX9_ok, nmX9⟩
theorem cf_10 : ∀ w ∈ u_ws RX10 TX10 81, w ∈ lw_tbl := by decide +kernel
theorem cg_10 : (u_ws RX10 TX10 81).all goodWord = true := by decide +kernel
theorem mcl_10 : mCl 10 RX10 TX10 81 := ⟨rfl, fun w h => mtb_in (cf_10 w h) (List.all_eq_true.mp cg_10 w h), tyX10_ok, nmX10⟩
end
section
/-! THE WALK'S OWN WORDS: a memory of numbered cells; a method is a function of it; 'the machine computes what the function says, where the function says something' -/
/-- a word: a number, or the number of a cell (none: null); numbers below 16 are arrays that stood there before -/
abbrev mV : Type := Int32 ⊕ Option Nat
/-- refs, kinds (0 none, 1 int array, 2 boolean array, 3 .. 9 arrays of references, 10 + c an object of class c), lengths, how many cells, how many slots -/
abbrev mS : Type := (Nat → Nat → Option Nat) × (Nat → Nat) × (Nat → Nat) × Nat × Nat
abbrev mM : Type := (Nat → Nat → Int32) × mS
/-- a method: name, code, locals, what it answers -/
abbrev mI : Type := MethodName × ByteArray × Nat × Option FieldType
/-- launch, classes and slots, array classes, where the cells begin, where the old arrays lie, the script's length, the script -/
abbrev mE : Type := Launch × va_G × (Nat → ClassId) × Nat × (Nat → Nat) × Nat × (Nat → Int32)
abbrev mRf (M : mM) : Nat → Nat → Option Nat := M.2.1
abbrev mKd (M : mM) : Nat → Nat := M.2.2.1
abbrev mLn (M : mM) : Nat → Nat := M.2.2.2.1
abbrev mN (M : mM) : Nat := M.2.2.2.2.1
abbrev mSl (M : mM) : Nat := M.2.2.2.2.2
abbrev eD (E : mE) : va_G := E.2.1
abbrev eA (E : mE) : Nat → ClassId := E.2.2.1
abbrev eB (E : mE) : Nat := E.2.2.2.1
abbrev eS (E : mE) : Nat → Nat := E.2.2.2.2.1
abbrev eL (E : mE) : Nat := E.2.2.2.2.2.1
abbrev eX (E : mE) : Nat → Int32 := E.2.2.2.2.2.2
def mad (E : mE) (r : Nat) : Nat := if r < 16 then eS E r else eB E + (r - 16)
def mval (E : mE) : mV → Value
  | .inl x => .int x
  | .inr none => .null
  | .inr (some r) => .ref (mad E r)
theorem mval_r (E : mE) (o : Option Nat) : mval E (.inr o) = va_rf (o.map (mad E)) := by cases o <;> rfl
theorem mval_cat (E : mE) (v : mV) : (mval E v).category = 1 := by
  rcases v with x | _ | r <;> rfl
/-- a row of a table of rows is another one -/
def mrow {β : Type} (f : Nat → β) (r : Nat) (g : β) : Nat → β := fun a => if a = r then g else f a
theorem mrow_s {β : Type} (f : Nat → β) (r : Nat) (g : β) : mrow f r g r = g := if_pos rfl
theorem mrow_n {β : Type} (f : Nat → β) {r a : Nat} (g : β) (h : a ≠ r) : mrow f r g a = f a := if_neg h
def mnf (c : Nat) : Nat := match vwCl[c]? with
  | some q => q.2.2
  | none => 0
def mfr (c j : Nat) : Bool := refKind (mft c j)
def mfv (E : mE) (M : mM) (c r j : Nat) : Value := if mfr c j = true then va_rf ((mRf M r j).map (mad E)) else .int (M.1 r j)
def mfs (E : mE) (M : mM) (c r : Nat) : List Value := (List.range (mnf c)).map (mfv E M c r)
def mcell (E : mE) (M : mM) (r : Nat) : va_E :=
  if mKd M r < 3 then .inl (eA E (mKd M r - 1), mLn M r, .inl (M.1 r))
  else if mKd M r < 10 then .inl (eA E (mKd M r - 1), mLn M r, .inr (.inr (.inr (.inr (fun j => (mRf M r j).map (mad E))))))
  else .inr (mKd M r - 10, mfs E M (mKd M r - 10) r)
def mws (E : mE) (M : mM) : va_W := (List.range (mN M)).map (fun k => (eB E + k, mcell E M (k + 16)))
def mA (E : mE) : Nat → Prop := fun q => eB E ≤ q
def mP (E : mE) (M : mM) (H : Heap) : Prop := va_P (eD E) vwCl (mws E M) H ∧ H.size = eB E + mN M ∧ ∀ r, mKd M r ≠ 0 → 16 ≤ r ∧ r < 16 + mN M
def mtys (E : mE) : List (ClassId × FieldType) := (List.range mtl.length).map (fun k => (eA E k, mtl.getD k .int))
def mG (E : mE) (U : State) : Prop := va_K (eD E) vwCl (mtys E) U ∧ (∀ q ∈ mst, va_Z q.2.1 q.2.2.1 q.2.2.2 (.ref (eS E q.1)) (mA E) U U.heap ∧ va_T .int (eS E q.1) (mtN q.1) (fun j => .int (mtF q.1 j)) (mA E) U U.heap) ∧ va_T .int (eS E 0) (eL E) (fun j => .int (eX E j)) (mA E) U U.heap ∧ ∀ w ∈ mnw, va_Nw w U
def mRm (d c sl : Nat) : Room := { frames := d, cells := c, slots := sl, locals := 40 * d }
def mWs (y : mI) : List Cond := Cond.code y.1 y.2.1 y.2.2.1 y.2.2.2 :: mtb
def mQ (E : mE) (r : Option mV) (M : mM) : Array Value → State → Outcome → State → Prop := fun _ st oc t => (oc = .returned (r.map (mval E)) ∧ mP E M t.heap) ∧ va_F (mA E) st t
/-- the contract: where the function says something, the method does it -/
def mSnd (E : mE) (y : mI) (d : Nat) (vs : List mV) (M : mM) {α : Type} (en : α → Option mV) (o : Option (α × mM)) : Prop := ∀ a M', o = some (a, M') → mN M ≤ mN M' ∧ mSl M ≤ mSl M' ∧
  Met E.1 y.1 (mWs y) (mRm d (mN M' - mN M) (mSl M' - mSl M)) (va_Pc (vs.map (mval E)) (fun U => mG E U ∧ mP E M U.heap)) (mQ E (en a) M') (mN M' - mN M) (mSl M' - mSl M) (mA E)
def mC (E : mE) (y : mI) (p : Program) (s : State) (m : MethodId) (args : Array Value) (meth : Method) (c : Code) : Prop :=
  p.tables.exec = Jvm.exec ∧ c.code = y.2.1 ∧ meth.sig.returnType = y.2.2.2 ∧ c.maxLocals = y.2.2.1 ∧ s.vm.findClass y.1.cls = some m.cls ∧ (∀ w ∈ mtb, w.before args s = true) ∧ meth.locks = false ∧ meth.name = y.1.name ∧ mG E s ∧ eB E ≤ s.heap.size
def mL (E : mE) (la : Array Slot) (n : Nat) (ls : List (Option mV)) : Prop := la.size = n ∧ lv_wf la ∧ ∀ (k : Nat) (v : mV), ls[k]? = some (some v) → la[k]? = some (.val (mval E v))
/-- the instruction that ends a method -/
def mri (t : Option FieldType) : Instr := match t with
  | none => .return_
  | some (.object _) => .areturn
  | some (.array _) => .areturn
  | some _ => .ireturn
/-- room enough, and the end: at the method's return, with its answer and its memory, the goal is reached -/
def mZ (E : mE) (y : mI) (d : Nat) (v : Option mV) (Mf : mM) (n0 s0 : Nat) (p : Program) (e : Env) (s : State) (m : MethodId) (args : Array Value) (below : List Frame) (meth : Method) (c : Code) (R : Room) (Q : State → Prop) : Prop :=
  d ≤ R.frames ∧ 40 * d ≤ R.locals ∧ mN Mf - n0 ≤ R.cells ∧ mSl Mf - s0 ≤ R.slots ∧ ∀ (pc' : Nat) (H' : Heap) (locs' : List Loc) (la' : Array Slot), va_S (mA E) s.heap H' locs' → mP E Mf H' → decode y.2.1 pc' = .ok (mri y.2.2.2, 1) → (y.2.2.2 = some .boolean → v = some (.inl 0) ∨ v = some (.inl 1)) → W p E.1 e R s m args below meth c H' locs' (mN Mf - n0) (mSl Mf - s0) Q (F0 m pc' la' (v.toList.map (mval E)))
/-- the machine, at pc of method y with these locals, this stack and this memory, computes o -/
def mVr (E : mE) (y : mI) (d pc : Nat) (ls : List (Option mV)) (st : List mV) (M : mM) {α : Type} (en : α → Option mV) (o : Option (α × mM)) : Prop := ∀ a Mf, o = some (a, Mf) → mN M ≤ mN Mf ∧ mSl M ≤ mSl Mf ∧
  ∀ (p : Program) (e : Env) (s : State) (m : MethodId) (args : Array Value) (below : List Frame) (meth : Method) (c : Code) (H : Heap) (locs : List Loc) (la : Array Slot) (n0 s0 : Nat) (R : Room) (Q : State → Prop), mC E y p s m args meth c → va_S (mA E) s.heap H locs → mP E M H → mL E la y.2.2.1 ls → n0 ≤ mN M → s0 ≤ mSl M → mZ E y d (en a) Mf n0 s0 p e s m args below meth c R Q →
    W p E.1 e R s m args below meth c H locs (mN M - n0) (mSl M - s0) Q (F0 m pc la (st.map (mval E)))
abbrev enI : Int32 → Option mV := fun x => some (.inl x)
abbrev enR : Option Nat → Option mV := fun x => some (.inr x)
abbrev enU : Unit → Option mV := fun _ => none
/-! of the world -/
theorem mcell_congr {E : mE} {M M' : mM} {r : Nat} (h1 : M'.1 r = M.1 r) (h2 : mRf M' r = mRf M r) (h3 : mKd M' r = mKd M r) (h4 : mLn M' r = mLn M r) : mcell E M' r = mcell E M r := by
  unfold mcell mfs
  have h5 : ∀ c, mfv E M' c r = mfv E M c r := fun c => by
    funext j
    unfold mfv
    rw [h1, h2]
  rw [h1, h2, h3, h4, h5]
theorem mws_get {E : mE} {M : mM} {H : Heap} (hP : mP E M H) {r : Nat} (h : mKd M r ≠ 0) : (mws E M)[r - 16]? = some (mad E r, mcell E M r) := by
  obtain ⟨h1, h2⟩ := hP.2.2 r h
  unfold mws mad
  rw [List.getElem?_map, List.getElem?_range (by omega), if_neg (by omega)]
  simp only [Option.map_some]
  rw [show r - 16 + 16 = r by omega]
theorem mws_D (E : mE) (M : mM) : va_D (mA E) (mws E M) := by
  have key : ∀ (k : Nat) (q : Nat × va_E), (mws E M)[k]? = some q → q.1 = eB E + k := by
    intro k q hq
    unfold mws at hq
    rw [List.getElem?_map] at hq
    cases hk : (List.range (mN M))[k]? with
    | none => rw [hk] at hq; cases hq
    | some z =>
      rw [hk] at hq
      have hz : z = k := by
        have hlt := (List.getElem?_eq_some_iff.mp hk).1
        rw [List.length_range] at hlt
        rw [List.getElem?_range hlt] at hk
        exact (Option.some.inj hk).symm
      subst hz
      cases hq
      rfl
  refine ⟨fun i j x z hi hj hxz => ?_, fun k q hq => ?_⟩
  · have a := key i x hi
    have b := key j z hj
    omega
  · have a := key k q hq
    unfold mA
    omega
theorem mws_set {E : mE} {M M' : mM} {r : Nat} {x : va_E} (hr : 16 ≤ r) (hn : mN M' = mN M) (hx : x = mcell E M' r) (ho : ∀ q, q ≠ r → mcell E M' q = mcell E M q) : (mws E M).set (r - 16) (mad E r, x) = mws E M' := by
  apply List.ext_getElem?
  intro k
  unfold mws
  by_cases hk : k = r - 16
  · subst hk
    by_cases hl : r - 16 < mN M
    · rw [List.getElem?_set_self (by simpa using hl), List.getElem?_map, hn, List.getElem?_range hl]
      simp only [Option.map_some]
      rw [show r - 16 + 16 = r by omega, hx]
      unfold mad
      rw [if_neg (by omega)]
    · rw [List.set_eq_of_length_le (by simp; omega), hn]
      rw [List.getElem?_eq_none (by simp; omega), List.getElem?_eq_none (by simp; omega)]
  · rw [List.getElem?_set_ne (by omega), List.getElem?_map, List.getElem?_map, hn]
    cases hz : (List.range (mN M))[k]? with
    | none => rfl
    | some z =>
      have hlt := (List.getElem?_eq_some_iff.mp hz).1
      rw [List.length_range] at hlt
      rw [List.getElem?_range hlt] at hz
      cases hz
      simp only [Option.map_some]
      rw [ho (k + 16) (by omega)]
theorem mfs_get {E : mE} {M : mM} {c r j : Nat} (h : j < mnf c) : (mfs E M c r)[j]? = some (mfv E M c r j) := by
  unfold mfs
  rw [List.getElem?_map, List.getElem?_range h]
  rfl
theorem mfs_len (E : mE) (M : mM) (c r : Nat) : (mfs E M c r).length = mnf c := by simp [mfs]
theorem mcell_i {E : mE} {M : mM} {r t : Nat} (h : mKd M r = t + 1) (ht : t < 2) : mcell E M r = .inl (eA E t, mLn M r, .inl (M.1 r)) := by
  unfold mcell
  rw [if_pos (by omega), h]
  rfl
theorem mcell_q {E : mE} {M : mM} {r t : Nat} (h : mKd M r = t + 3) (ht : t < 7) : mcell E M r = .inl (eA E (t + 2), mLn M r, .inr (.inr (.inr (.inr (fun j => (mRf M r j).map (mad E)))))) := by
  unfold mcell
  rw [if_neg (by omega), if_pos (by omega), h]
  rfl
theorem mcell_o {E : mE} {M : mM} {r c : Nat} (h : mKd M r = c + 10) : mcell E M r = .inr (c, mfs E M c r) := by
  unfold mcell
  rw [if_neg (by omega), if_neg (by omega), h]
  rfl
end
section
section MR
variable {E : mE} {y : mI} {d pc : Nat} {ls : List (Option mV)} {st : List mV} {M : mM} {α : Type} {en : α → Option mV} {o : Option (α × mM)}
theorem m_none : mVr E y d pc ls st M en (none : Option (α × mM)) := fun _ _ h => by cases h
/-- a step that leaves locals and memory -/
theorem m_go {pc' : Nat} {st' : List mV} (k : mVr E y d pc' ls st' M en o) (h : ∀ {p : Program} {e : Env} {R : Room} {s : State} {m : MethodId} {args : Array Value} {below : List Frame} {meth : Method} {c : Code} {H : Heap} {locs : List Loc} {cells slots : Nat} {Q : State → Prop} {la : Array Slot}, mC E y p s m args meth c → mL E la y.2.2.1 ls → W p E.1 e R s m args below meth c H locs cells slots Q (F0 m pc' la (st'.map (mval E))) → W p E.1 e R s m args below meth c H locs cells slots Q (F0 m pc la (st.map (mval E)))) : mVr E y d pc ls st M en o := by
  intro a Mf ho
  obtain ⟨h1, h2, kk⟩ := k a Mf ho
  exact ⟨h1, h2, fun p e s m args below meth c H locs la n0 s0 R Q C hS hP hL hn hs hz9 => h C hL (kk p e s m args below meth c H locs la n0 s0 R Q C hS hP hL hn hs hz9)⟩
theorem m_iconst {n : Int} {v : Int32} (hd : decode y.2.1 pc = .ok (.iconst n, 1)) (hv : Int32.ofInt n = v) (k : mVr E y d (pc + 1) ls (.inl v :: st) M en o) : mVr E y d pc ls st M en o := m_go k (fun C _ w => lv_iconst C.1 C.2.1 hd hv w)
theorem m_bipush {n : Int} {v : Int32} (hd : decode y.2.1 pc = .ok (.bipush n, 2)) (hv : (Int8.ofInt n).toInt32 = v) (k : mVr E y d (pc + 2) ls (.inl v :: st) M en o) : mVr E y d pc ls st M en o := m_go k (fun C _ w => lv_bipush C.1 C.2.1 hd hv w)
theorem m_sipush {n : Int} {v : Int32} (hd : decode y.2.1 pc = .ok (.sipush n, 3)) (hv : (Int16.ofInt n).toInt32 = v) (k : mVr E y d (pc + 3) ls (.inl v :: st) M en o) : mVr E y d pc ls st M en o := m_go k (fun C _ w => lv_sipush C.1 C.2.1 hd hv w)
theorem m_ldc {i : Nat} {v : Int32} (hd : decode y.2.1 pc = .ok (.ldc i, 2)) (hw : Cond.constant y.1.cls i v ∈ mtb) (k : mVr E y d (pc + 2) ls (.inl v :: st) M en o) : mVr E y d pc ls st M en o := m_go k (fun C _ w => lv_ldc C.1 C.2.1 C.2.2.2.2.1 (C.2.2.2.2.2.1 _ hw) hd w)
theorem m_ldcw {i : Nat} {v : Int32} (hd : decode y.2.1 pc = .ok (.ldc_w i, 3)) (hw : Cond.constant y.1.cls i v ∈ mtb) (k : mVr E y d (pc + 3) ls (.inl v :: st) M en o) : mVr E y d pc ls st M en o := m_go k (fun C _ w => lv_ldcw C.1 C.2.1 C.2.2.2.2.1 (C.2.2.2.2.2.1 _ hw) hd w)
theorem m_null (hd : decode y.2.1 pc = .ok (.aconst_null, 1)) (k : mVr E y d (pc + 1) ls (.inr none :: st) M en o) : mVr E y d pc ls st M en o := m_go k (fun C _ w => lv_null C.1 C.2.1 hd w)
theorem m_iload {i : Nat} {x : Int32} (hd : decode y.2.1 pc = .ok (.iload i, 2)) (hl : ls[i]? = some (some (.inl x))) (k : mVr E y d (pc + 2) ls (.inl x :: st) M en o) : mVr E y d pc ls st M en o := m_go k (fun C hL w => lv_iload C.1 C.2.1 hd (hL.2.2 _ _ hl) w)
theorem m_iload_n {n : Fin 4} {x : Int32} (hd : decode y.2.1 pc = .ok (.iload_n n, 1)) (hl : ls[(n : Nat)]? = some (some (.inl x))) (k : mVr E y d (pc + 1) ls (.inl x :: st) M en o) : mVr E y d pc ls st M en o := m_go k (fun C hL w => lv_iload_n C.1 C.2.1 hd rfl (hL.2.2 _ _ hl) w)
theorem m_aload {i : Nat} {x : Option Nat} (hd : decode y.2.1 pc = .ok (.aload i, 2)) (hl : ls[i]? = some (some (.inr x))) (k : mVr E y d (pc + 2) ls (.inr x :: st) M en o) : mVr E y d pc ls st M en o := by
  cases x with
  | none => exact m_go k (fun C hL w => lv_aloadN C.1 C.2.1 hd (hL.2.2 _ _ hl) w)
  | some x => exact m_go k (fun C hL w => lv_aload C.1 C.2.1 hd (hL.2.2 _ _ hl) w)
theorem m_aload_n {n : Fin 4} {x : Option Nat} (hd : decode y.2.1 pc = .ok (.aload_n n, 1)) (hl : ls[(n : Nat)]? = some (some (.inr x))) (k : mVr E y d (pc + 1) ls (.inr x :: st) M en o) : mVr E y d pc ls st M en o := by
  cases x with
  | none => exact m_go k (fun C hL w => lv_aload_nN C.1 C.2.1 hd rfl (hL.2.2 _ _ hl) w)
  | some x => exact m_go k (fun C hL w => lv_aload_n C.1 C.2.1 hd rfl (hL.2.2 _ _ hl) w)
theorem m_iadd {a b : Int32} (hd : decode y.2.1 pc = .ok (.iadd, 1)) (k : mVr E y d (pc + 1) ls (.inl (a + b) :: st) M en o) : mVr E y d pc ls (.inl b :: .inl a :: st) M en o := m_go k (fun C _ w => lv_iadd C.1 C.2.1 hd w)
theorem m_isub {a b : Int32} (hd : decode y.2.1 pc = .ok (.isub, 1)) (k : mVr E y d (pc + 1) ls (.inl (a - b) :: st) M en o) : mVr E y d pc ls (.inl b :: .inl a :: st) M en o := m_go k (fun C _ w => lv_isub C.1 C.2.1 hd w)
theorem m_imul {a b : Int32} (hd : decode y.2.1 pc = .ok (.imul, 1)) (k : mVr E y d (pc + 1) ls (.inl (a * b) :: st) M en o) : mVr E y d pc ls (.inl b :: .inl a :: st) M en o := m_go k (fun C _ w => lv_imul C.1 C.2.1 hd w)
theorem m_iand {a b : Int32} (hd : decode y.2.1 pc = .ok (.iand, 1)) (k : mVr E y d (pc + 1) ls (.inl (a &&& b) :: st) M en o) : mVr E y d pc ls (.inl b :: .inl a :: st) M en o := m_go k (fun C _ w => lv_iand C.1 C.2.1 hd w)
theorem m_ior {a b : Int32} (hd : decode y.2.1 pc = .ok (.ior, 1)) (k : mVr E y d (pc + 1) ls (.inl (a ||| b) :: st) M en o) : mVr E y d pc ls (.inl b :: .inl a :: st) M en o := m_go k (fun C _ w => lv_ior C.1 C.2.1 hd w)
theorem m_ixor {a b : Int32} (hd : decode y.2.1 pc = .ok (.ixor, 1)) (k : mVr E y d (pc + 1) ls (.inl (a ^^^ b) :: st) M en o) : mVr E y d pc ls (.inl b :: .inl a :: st) M en o := m_go k (fun C _ w => lv_ixor C.1 C.2.1 hd w)
theorem m_ineg {a : Int32} (hd : decode y.2.1 pc = .ok (.ineg, 1)) (k : mVr E y d (pc + 1) ls (.inl (0 - a) :: st) M en o) : mVr E y d pc ls (.inl a :: st) M en o := m_go k (fun C _ w => lv_ineg C.1 C.2.1 hd w)
/-- a >>> b as the machine does it -/
def mush (a b : Int32) : Int32 := (a.toUInt32 >>> (b.toUInt32 &&& Int32.toUInt32 31)).toInt32
theorem m_ishl {a b : Int32} (hd : decode y.2.1 pc = .ok (.ishl, 1)) (k : mVr E y d (pc + 1) ls (.inl (a <<< (b &&& 31)) :: st) M en o) : mVr E y d pc ls (.inl b :: .inl a :: st) M en o := m_go k (fun C _ w => lv_ishl C.1 C.2.1 hd w)
theorem m_ishr {a b : Int32} (hd : decode y.2.1 pc = .ok (.ishr, 1)) (k : mVr E y d (pc + 1) ls (.inl (a >>> (b &&& 31)) :: st) M en o) : mVr E y d pc ls (.inl b :: .inl a :: st) M en o := m_go k (fun C _ w => lv_ishr C.1 C.2.1 hd w)
theorem m_iushr {a b : Int32} (hd : decode y.2.1 pc = .ok (.iushr, 1)) (k : mVr E y d (pc + 1) ls (.inl (mush a b) :: st) M en o) : mVr E y d pc ls (.inl b :: .inl a :: st) M en o := m_go k (fun C _ w => lv_iushr C.1 C.2.1 hd rfl w)
theorem m_dup {a : mV} (hd : decode y.2.1 pc = .ok (.dup, 1)) (k : mVr E y d (pc + 1) ls (a :: a :: st) M en o) : mVr E y d pc ls (a :: st) M en o := m_go k (fun C _ w => lv_dup C.1 C.2.1 hd (mval_cat E a) w)
theorem m_pop {a : mV} (hd : decode y.2.1 pc = .ok (.pop, 1)) (k : mVr E y d (pc + 1) ls st M en o) : mVr E y d pc ls (a :: st) M en o := m_go k (fun C _ w => lv_pop C.1 C.2.1 hd (mval_cat E a) w)
theorem m_dup_x1 {a b : mV} (hd : decode y.2.1 pc = .ok (.dup_x1, 1)) (k : mVr E y d (pc + 1) ls (a :: b :: a :: st) M en o) : mVr E y d pc ls (a :: b :: st) M en o := m_go k (fun C _ w => lv_dup_x1 C.1 C.2.1 hd (mval_cat E a) (mval_cat E b) w)
theorem m_dup_x2 {a b c : mV} (hd : decode y.2.1 pc = .ok (.dup_x2, 1)) (k : mVr E y d (pc + 1) ls (a :: b :: c :: a :: st) M en o) : mVr E y d pc ls (a :: b :: c :: st) M en o := m_go k (fun C _ w => lv_dup_x2 C.1 C.2.1 hd (mval_cat E a) (mval_cat E b) (mval_cat E c) w)
theorem m_dup2 {a b : mV} (hd : decode y.2.1 pc = .ok (.dup2, 1)) (k : mVr E y d (pc + 1) ls (a :: b :: a :: b :: st) M en o) : mVr E y d pc ls (a :: b :: st) M en o := m_go k (fun C _ w => lv_dup2_11 C.1 C.2.1 hd (mval_cat E a) (mval_cat E b) w)
theorem m_goto {off : Int} {tgt : Nat} (hd : decode y.2.1 pc = .ok (.goto off, 3)) (ht : (pc : Int) + off = (tgt : Int)) (k : mVr E y d tgt ls st M en o) : mVr E y d pc ls st M en o := m_go k (fun C _ w => lv_goto C.1 C.2.1 hd ht w)
/-- fewer known locals -/
theorem m_less {ls' : List (Option mV)} (h : ∀ (k : Nat) (v : mV), ls'[k]? = some (some v) → ls[k]? = some (some v)) (k : mVr E y d pc ls' st M en o) : mVr E y d pc ls st M en o := by
  intro a Mf ho
  obtain ⟨h1, h2, kk⟩ := k a Mf ho
  exact ⟨h1, h2, fun p e s m args below meth c H locs la n0 s0 R Q C hS hP hL hn hs hz9 => kk p e s m args below meth c H locs la n0 s0 R Q C hS hP ⟨hL.1, hL.2.1, fun k v q => hL.2.2 k v (h k v q)⟩ hn hs hz9⟩
def mles : List (Option mV) → List (Option mV) → Prop
  | [], _ => True
  | none :: l, _ :: l' => mles l l'
  | some v :: l, w :: l' => w = some v ∧ mles l l'
  | none :: l, [] => mles l []
  | some _ :: _, [] => False
theorem mles_at : ∀ (l l' : List (Option mV)), mles l l' → ∀ (k : Nat) (v : mV), l[k]? = some (some v) → l'[k]? = some (some v)
  | [], _, _, k, v, h => by simp at h
  | none :: l, a :: l', h, 0, v, q => by simp at q
  | none :: l, a :: l', h, k + 1, v, q => by
    rw [List.getElem?_cons_succ] at q ⊢
    exact mles_at l l' h k v q
  | some x :: l, a :: l', h, 0, v, q => by
    rw [List.getElem?_cons_zero] at q ⊢
    rw [h.1]; exact q
  | some x :: l, a :: l', h, k + 1, v, q => by
    rw [List.getElem?_cons_succ] at q ⊢
    exact mles_at l l' h.2 k v q
  | none :: l, [], h, 0, v, q => by simp at q
  | none :: l, [], h, k + 1, v, q => by
    rw [List.getElem?_cons_succ] at q
    have := mles_at l [] h k v q
    simp at this
  | some _ :: _, [], h, _, _, _ => h.elim
theorem m_drop {ls' : List (Option mV)} (h : mles ls' ls) (k : mVr E y d pc ls' st M en o) : mVr E y d pc ls st M en o := m_less (mles_at _ _ h) k
/-- a branch -/
theorem m_br {cnd : Prop} [Decidable cnd] {st' : List mV} {p1 p2 : Nat} {o1 o2 : Option (α × mM)} (k1 : mVr E y d p1 ls st M en o1) (k2 : mVr E y d p2 ls st M en o2) (h : ∀ {p : Program} {e : Env} {R : Room} {s : State} {m : MethodId} {args : Array Value} {below : List Frame} {meth : Method} {c : Code} {H : Heap} {locs : List Loc} {cells slots : Nat} {Q : State → Prop} {la : Array Slot}, mC E y p s m args meth c → (cnd → W p E.1 e R s m args below meth c H locs cells slots Q (F0 m p1 la (st.map (mval E)))) → (¬ cnd → W p E.1 e R s m args below meth c H locs cells slots Q (F0 m p2 la (st.map (mval E)))) → W p E.1 e R s m args below meth c H locs cells slots Q (F0 m pc la (st'.map (mval E)))) : mVr E y d pc ls st' M en (if cnd then o1 else o2) := by
  intro a Mf ho
  by_cases hc : cnd
  · rw [if_pos hc] at ho
    obtain ⟨h1, h2, kk⟩ := k1 a Mf ho
    exact ⟨h1, h2, fun p e s m args below meth c H locs la n0 s0 R Q C hS hP hL hn hs hz9 => h C (fun _ => kk p e s m args below meth c H locs la n0 s0 R Q C hS hP hL hn hs hz9) (fun n => absurd hc n)⟩
  · rw [if_neg hc] at ho
    obtain ⟨h1, h2, kk⟩ := k2 a Mf ho
    exact ⟨h1, h2, fun p e s m args below meth c H locs la n0 s0 R Q C hS hP hL hn hs hz9 => h C (fun n => absurd n hc) (fun _ => kk p e s m args below meth c H locs la n0 s0 R Q C hS hP hL hn hs hz9)⟩
section BR
variable {a b : Int32} {off : Int} {tgt : Nat} {o1 o2 : Option (α × mM)}
theorem m_icmp_eq (hd : decode y.2.1 pc = .ok (.if_icmp .eq off, 3)) (ht : (pc : Int) + off = (tgt : Int)) (k1 : mVr E y d tgt ls st M en o1) (k2 : mVr E y d (pc + 3) ls st M en o2) : mVr E y d pc ls (.inl b :: .inl a :: st) M en (if a = b then o1 else o2) := m_br k1 k2 (fun C w1 w2 => lv_icmp_eq C.1 C.2.1 hd ht w1 w2)
theorem m_icmp_ne (hd : decode y.2.1 pc = .ok (.if_icmp .ne off, 3)) (ht : (pc : Int) + off = (tgt : Int)) (k1 : mVr E y d (pc + 3) ls st M en o1) (k2 : mVr E y d tgt ls st M en o2) : mVr E y d pc ls (.inl b :: .inl a :: st) M en (if a = b then o1 else o2) := m_br k1 k2 (fun C w1 w2 => lv_icmp_ne C.1 C.2.1 hd ht w2 w1)
theorem m_icmp_lt (hd : decode y.2.1 pc = .ok (.if_icmp .lt off, 3)) (ht : (pc : Int) + off = (tgt : Int)) (k1 : mVr E y d tgt ls st M en o1) (k2 : mVr E y d (pc + 3) ls st M en o2) : mVr E y d pc ls (.inl b :: .inl a :: st) M en (if a < b then o1 else o2) := m_br k1 k2 (fun C w1 w2 => lv_icmp_lt C.1 C.2.1 hd ht w1 w2)
theorem m_icmp_ge (hd : decode y.2.1 pc = .ok (.if_icmp .ge off, 3)) (ht : (pc : Int) + off = (tgt : Int)) (k1 : mVr E y d (pc + 3) ls st M en o1) (k2 : mVr E y d tgt ls st M en o2) : mVr E y d pc ls (.inl b :: .inl a :: st) M en (if a < b then o1 else o2) := m_br k1 k2 (fun C w1 w2 => lv_icmp_ge C.1 C.2.1 hd ht (fun q => w2 (Int32.not_lt.mpr q)) (fun q => w1 (Int32.not_le.mp q)))
theorem m_icmp_gt (hd : decode y.2.1 pc = .ok (.if_icmp .gt off, 3)) (ht : (pc : Int) + off = (tgt : Int)) (k1 : mVr E y d tgt ls st M en o1) (k2 : mVr E y d (pc + 3) ls st M en o2) : mVr E y d pc ls (.inl b :: .inl a :: st) M en (if b < a then o1 else o2) := m_br k1 k2 (fun C w1 w2 => lv_icmp_gt C.1 C.2.1 hd ht w1 w2)
theorem m_icmp_le (hd : decode y.2.1 pc = .ok (.if_icmp .le off, 3)) (ht : (pc : Int) + off = (tgt : Int)) (k1 : mVr E y d (pc + 3) ls st M en o1) (k2 : mVr E y d tgt ls st M en o2) : mVr E y d pc ls (.inl b :: .inl a :: st) M en (if b < a then o1 else o2) := m_br k1 k2 (fun C w1 w2 => lv_icmp_le C.1 C.2.1 hd ht (fun q => w2 (Int32.not_lt.mpr q)) (fun q => w1 (Int32.not_le.mp q)))
theorem m_if_eq (hd : decode y.2.1 pc = .ok (.ifCond .eq off, 3)) (ht : (pc : Int) + off = (tgt : Int)) (k1 : mVr E y d tgt ls st M en o1) (k2 : mVr E y d (pc + 3) ls st M en o2) : mVr E y d pc ls (.inl a :: st) M en (if a = 0 then o1 else o2) := m_br k1 k2 (fun C w1 w2 => lv_if_eq C.1 C.2.1 hd ht w1 w2)
theorem m_if_ne (hd : decode y.2.1 pc = .ok (.ifCond .ne off, 3)) (ht : (pc : Int) + off = (tgt : Int)) (k1 : mVr E y d (pc + 3) ls st M en o1) (k2 : mVr E y d tgt ls st M en o2) : mVr E y d pc ls (.inl a :: st) M en (if a = 0 then o1 else o2) := m_br k1 k2 (fun C w1 w2 => lv_if_ne C.1 C.2.1 hd ht w2 w1)
theorem m_if_lt (hd : decode y.2.1 pc = .ok (.ifCond .lt off, 3)) (ht : (pc : Int) + off = (tgt : Int)) (k1 : mVr E y d tgt ls st M en o1) (k2 : mVr E y d (pc + 3) ls st M en o2) : mVr E y d pc ls (.inl a :: st) M en (if a < 0 then o1 else o2) := m_br k1 k2 (fun C w1 w2 => lv_if_lt C.1 C.2.1 hd ht w1 w2)
theorem m_if_ge (hd : decode y.2.1 pc = .ok (.ifCond .ge off, 3)) (ht : (pc : Int) + off = (tgt : Int)) (k1 : mVr E y d (pc + 3) ls st M en o1) (k2 : mVr E y d tgt ls st M en o2) : mVr E y d pc ls (.inl a :: st) M en (if a < 0 then o1 else o2) := m_br k1 k2 (fun C w1 w2 => lv_if_ge C.1 C.2.1 hd ht (fun q => w2 (Int32.not_lt.mpr q)) (fun q => w1 (Int32.not_le.mp q)))
theorem m_if_gt (hd : decode y.2.1 pc = .ok (.ifCond .gt off, 3)) (ht : (pc : Int) + off = (tgt : Int)) (k1 : mVr E y d tgt ls st M en o1) (k2 : mVr E y d (pc + 3) ls st M en o2) : mVr E y d pc ls (.inl a :: st) M en (if 0 < a then o1 else o2) := m_br k1 k2 (fun C w1 w2 => lv_if_gt C.1 C.2.1 hd ht w1 w2)
theorem m_if_le (hd : decode y.2.1 pc = .ok (.ifCond .le off, 3)) (ht : (pc : Int) + off = (tgt : Int)) (k1 : mVr E y d (pc + 3) ls st M en o1) (k2 : mVr E y d tgt ls st M en o2) : mVr E y d pc ls (.inl a :: st) M en (if 0 < a then o1 else o2) := m_br k1 k2 (fun C w1 w2 => lv_if_le C.1 C.2.1 hd ht (fun q => w2 (Int32.not_lt.mpr q)) (fun q => w1 (Int32.not_le.mp q)))
end BR
/-- null or not -/
def x_nl {β : Type} (a : Option Nat) (x z : β) : β := match a with
  | none => x
  | some _ => z
theorem m_ifnull {a : Option Nat} {off : Int} {tgt : Nat} {o1 o2 : Option (α × mM)} (hd : decode y.2.1 pc = .ok (.ifnull off, 3)) (ht : (pc : Int) + off = (tgt : Int)) (k1 : mVr E y d tgt ls st M en o1) (k2 : mVr E y d (pc + 3) ls st M en o2) : mVr E y d pc ls (.inr a :: st) M en (x_nl a o1 o2) := by
  cases a with
  | none => exact m_go k1 (fun C _ w => lv_ifnullN C.1 C.2.1 hd ht w)
  | some r => exact m_go k2 (fun C _ w => lv_ifnull C.1 C.2.1 hd w)
theorem m_ifnonnull {a : Option Nat} {off : Int} {tgt : Nat} {o1 o2 : Option (α × mM)} (hd : decode y.2.1 pc = .ok (.ifnonnull off, 3)) (ht : (pc : Int) + off = (tgt : Int)) (k1 : mVr E y d (pc + 3) ls st M en o1) (k2 : mVr E y d tgt ls st M en o2) : mVr E y d pc ls (.inr a :: st) M en (x_nl a o1 o2) := by
  cases a with
  | none => exact m_go k1 (fun C _ w => lv_ifnonnullN C.1 C.2.1 hd w)
  | some r => exact m_go k2 (fun C _ w => lv_ifnonnull C.1 C.2.1 hd ht w)
/-- division -/
def x_dv {β : Type} (a b : Int32) (k : Int32 → Option β) : Option β := if b = 0 then none else k (a / b)
def x_rm {β : Type} (a b : Int32) (k : Int32 → Option β) : Option β := if b = 0 then none else k (a - a / b * b)
theorem m_idiv {a b : Int32} {k : Int32 → Option (α × mM)} (hd : decode y.2.1 pc = .ok (.idiv, 1)) (kk : ∀ x, mVr E y d (pc + 1) ls (.inl x :: st) M en (k x)) : mVr E y d pc ls (.inl b :: .inl a :: st) M en (x_dv a b k) := by
  unfold x_dv
  split
  · exact m_none
  · rename_i h
    exact m_go (kk _) (fun C _ w => lv_idiv C.1 C.2.1 hd h w)
theorem m_irem {a b : Int32} {k : Int32 → Option (α × mM)} (hd : decode y.2.1 pc = .ok (.irem, 1)) (kk : ∀ x, mVr E y d (pc + 1) ls (.inl x :: st) M en (k x)) : mVr E y d pc ls (.inl b :: .inl a :: st) M en (x_rm a b k) := by
  unfold x_rm
  split
  · exact m_none
  · rename_i h
    exact m_go (kk _) (fun C _ w => lv_irem C.1 C.2.1 hd h w)
/-- storing in a local -/
theorem mL_set {la : Array Slot} {n i : Nat} {v : mV} {l : List (Nat × Value)} {la' : Array Slot} (h : mL E la n ls) (hl : ∀ k w, ls[k]? = some (some w) → (k, mval E w) ∈ l) (h' : lv_has la' n ((i, mval E v) :: l.filter (fun q => !(q.1 == i) && !(q.1 + 1 == i && q.2.category == 2)))) : mL E la' n (ls.set i (some v)) := by
  refine ⟨h'.1, h'.2.1, fun k w hk => ?_⟩
  by_cases hki : k = i
  · subst hki
    have hlt := (List.getElem?_eq_some_iff.mp hk).1
    rw [List.getElem?_set_self (by simpa using hlt)] at hk
    cases hk
    exact h'.2.2 (k, mval E v) List.mem_cons_self
  · rw [List.getElem?_set_ne (Ne.symm hki)] at hk
    refine h'.2.2 (k, mval E w) (List.mem_cons_of_mem _ (List.mem_filter.mpr ⟨hl k w hk, ?_⟩))
    simp [hki, mval_cat]
def mlv (E : mE) (ls : List (Option mV)) : List (Nat × Value) := (List.range ls.length).filterMap (fun k => match ls[k]? with
  | some (some w) => some (k, mval E w)
  | _ => none)
theorem mlv_in {k : Nat} {w : mV} (h : ls[k]? = some (some w)) : (k, mval E w) ∈ mlv E ls := by
  unfold mlv
  refine List.mem_filterMap.mpr ⟨k, List.mem_range.mpr (List.getElem?_eq_some_iff.mp h).1, ?_⟩
  rw [h]
theorem mlv_has {la : Array Slot} {n : Nat} (h : mL E la n ls) : lv_has la n (mlv E ls) := by
  refine ⟨h.1, h.2.1, fun q hq => ?_⟩
  unfold mlv at hq
  obtain ⟨k, -, hk⟩ := List.mem_filterMap.mp hq
  split at hk
  · rename_i w hw
    cases hk
    exact h.2.2 k w hw
  · cases hk
theorem m_lo {pc' i : Nat} {v : mV} {st' : List mV} (hi : i < y.2.2.1) (k : mVr E y d pc' (ls.set i (some v)) st' M en o) (h : ∀ {p : Program} {e : Env} {R : Room} {s : State} {m : MethodId} {args : Array Value} {below : List Frame} {meth : Method} {c : Code} {H : Heap} {locs : List Loc} {cells slots : Nat} {Q : State → Prop} {la : Array Slot}, mC E y p s m args meth c → lv_has la y.2.2.1 (mlv E ls) → (∀ la' : Array Slot, lv_has la' y.2.2.1 ((i, mval E v) :: (mlv E ls).filter (fun q => !(q.1 == i) && !(q.1 + 1 == i && q.2.category == 2))) → W p E.1 e R s m args below meth c H locs cells slots Q (F0 m pc' la' (st'.map (mval E)))) → W p E.1 e R s m args below meth c H locs cells slots Q (F0 m pc la (st.map (mval E)))) : mVr E y d pc ls st M en o := by
  intro a Mf ho
  obtain ⟨h1, h2, kk⟩ := k a Mf ho
  exact ⟨h1, h2, fun p e s m args below meth c H locs la n0 s0 R Q C hS hP hL hn hs hz9 => h C (mlv_has hL) (fun la' h' => kk p e s m args below meth c H locs la' n0 s0 R Q C hS hP (mL_set hL (fun _ _ q => mlv_in q) h') hn hs hz9)⟩
theorem m_istore {i : Nat} {x : Int32} (hd : decode y.2.1 pc = .ok (.istore i, 2)) (hi : i < y.2.2.1) (k : mVr E y d (pc + 2) (ls.set i (some (.inl x))) st M en o) : mVr E y d pc ls (.inl x :: st) M en o := m_lo hi k (fun C hL w => lv_istore C.1 C.2.1 hd hL hi rfl w)
theorem m_istore_n {n : Fin 4} {x : Int32} (hd : decode y.2.1 pc = .ok (.istore_n n, 1)) (hi : (n : Nat) < y.2.2.1) (k : mVr E y d (pc + 1) (ls.set n (some (.inl x))) st M en o) : mVr E y d pc ls (.inl x :: st) M en o := m_lo hi k (fun C hL w => lv_istore_n C.1 C.2.1 hd rfl hL hi rfl w)
theorem m_astore {i : Nat} {x : Option Nat} (hd : decode y.2.1 pc = .ok (.astore i, 2)) (hi : i < y.2.2.1) (k : mVr E y d (pc + 2) (ls.set i (some (.inr x))) st M en o) : mVr E y d pc ls (.inr x :: st) M en o := by
  cases x with
  | none => exact m_lo hi k (fun C hL w => lv_astoreN C.1 C.2.1 hd hL hi rfl w)
  | some r => exact m_lo hi k (fun C hL w => lv_astore C.1 C.2.1 hd hL hi rfl w)
theorem m_astore_n {n : Fin 4} {x : Option Nat} (hd : decode y.2.1 pc = .ok (.astore_n n, 1)) (hi : (n : Nat) < y.2.2.1) (k : mVr E y d (pc + 1) (ls.set n (some (.inr x))) st M en o) : mVr E y d pc ls (.inr x :: st) M en o := by
  cases x with
  | none => exact m_lo hi k (fun C hL w => lv_astore_nN C.1 C.2.1 hd rfl hL hi rfl w)
  | some r => exact m_lo hi k (fun C hL w => lv_astore_n C.1 C.2.1 hd rfl hL hi rfl w)
theorem m_iinc {i : Nat} {n : Int} {x v : Int32} (hd : decode y.2.1 pc = .ok (.iinc i n, 3)) (hl : ls[i]? = some (some (.inl x))) (hv : Int32.ofInt n = v) (hi : i < y.2.2.1) (k : mVr E y d (pc + 3) (ls.set i (some (.inl (x + v)))) st M en o) : mVr E y d pc ls st M en o := by
  subst hv
  refine m_lo (v := .inl (x + Int32.ofInt n)) hi k (fun C hL w => ?_)
  obtain ⟨q, hq⟩ := List.getElem?_of_mem (mlv_in (E := E) hl)
  exact lv_iinc C.1 C.2.1 hd hL hq rfl hi rfl w
/-- a switch, by its table of answers -/
def x_sw {β : Type} (x : Int32) : List (Int32 × β) → β → β
  | [], z => z
  | (k, b) :: l, z => if x = k then b else x_sw x l z
end MR
end
section
/-! fields, arrays, new cells -/
def mFd (own : String) (index c j : Nat) : Prop := ∃ (C : String) (T : u_T) (N : Nat), mCl c C T N ∧ j < N ∧ Cond.fieldLink own index (T j).1 (T j).2.1 (T j).2.2.1 ∈ mtb
def mFp (own : String) (index c j : Nat) : Prop := ∃ (C : String) (T : u_T) (N : Nat), mCl c C T N ∧ j < N ∧ Cond.fieldLink own index (T j).1 (T j).2.1 (T j).2.2.1 ∈ mtb ∧ ((T j).2.2.2 = false ∨ ((T j).2.2.2 = true ∧ (T j).1 = own))
theorem mnf_of {c N : Nat} {C : String} {T : u_T} (h : mCl c C T N) : mnf c = N := by
  unfold mnf
  rw [h.1]
theorem mtys_at {E : mE} {k : Nat} {ty : FieldType} (h : mtl[k]? = some ty) : (mtys E)[k]? = some (eA E k, ty) := by
  have hl := (List.getElem?_eq_some_iff.mp h).1
  unfold mtys
  rw [List.getElem?_map, List.getElem?_range hl]
  simp only [Option.map_some]
  rw [List.getD_eq_getElem?_getD, h]
  rfl
/-- reading a field, an array; a length -/
def x_gI {β : Type} (M : mM) (c : Nat) (a : Option Nat) (j : Nat) (k : Int32 → Option β) : Option β := match a with
  | none => none
  | some r => if mKd M r = c + 10 then k (M.1 r j) else none
def x_gR {β : Type} (M : mM) (c : Nat) (a : Option Nat) (j : Nat) (k : Option Nat → Option β) : Option β := match a with
  | none => none
  | some r => if mKd M r = c + 10 then k (mRf M r j) else none
def x_aI {β : Type} (M : mM) (t : Nat) (a : Option Nat) (i : Int32) (k : Int32 → Option β) : Option β := match a with
  | none => none
  | some r => if mKd M r = t + 1 ∧ ¬ i < 0 ∧ i.toNatClampNeg < mLn M r then k (M.1 r i.toNatClampNeg) else none
def x_aR {β : Type} (M : mM) (t : Nat) (a : Option Nat) (i : Int32) (k : Option Nat → Option β) : Option β := match a with
  | none => none
  | some r => if mKd M r = t + 3 ∧ ¬ i < 0 ∧ i.toNatClampNeg < mLn M r then k (mRf M r i.toNatClampNeg) else none
def x_al {β : Type} (M : mM) (t : Nat) (a : Option Nat) (k : Int32 → Option β) : Option β := match a with
  | none => none
  | some r => if mKd M r = t + 1 then k (Int32.ofNat (mLn M r)) else none
/-- writing -/
def mpI (M : mM) (r j : Nat) (v : Int32) : mM := (mrow M.1 r (upd (M.1 r) j v), M.2)
def mpR (M : mM) (r j : Nat) (v : Option Nat) : mM := (M.1, mrow (mRf M) r (va_up (mRf M r) j v), M.2.2)
def x_pI {β : Type} (M : mM) (c : Nat) (a : Option Nat) (j : Nat) (v : Int32) (k : mM → Option β) : Option β := match a with
  | none => none
  | some r => if mKd M r = c + 10 then k (mpI M r j v) else none
def x_pZ {β : Type} (M : mM) (c : Nat) (a : Option Nat) (j : Nat) (v : Int32) (k : mM → Option β) : Option β := match a with
  | none => none
  | some r => if mKd M r = c + 10 ∧ (v = 0 ∨ v = 1) then k (mpI M r j v) else none
def x_pR {β : Type} (M : mM) (c : Nat) (a : Option Nat) (j : Nat) (v : Option Nat) (k : mM → Option β) : Option β := match a with
  | none => none
  | some r => if mKd M r = c + 10 then k (mpR M r j v) else none
def x_wI {β : Type} (M : mM) (a : Option Nat) (i v : Int32) (k : mM → Option β) : Option β := match a with
  | none => none
  | some r => if mKd M r = 1 ∧ ¬ i < 0 ∧ i.toNatClampNeg < mLn M r then k (mpI M r i.toNatClampNeg v) else none
def x_wZ {β : Type} (M : mM) (a : Option Nat) (i v : Int32) (k : mM → Option β) : Option β := match a with
  | none => none
  | some r => if mKd M r = 2 ∧ ¬ i < 0 ∧ i.toNatClampNeg < mLn M r ∧ (v = 0 ∨ v = 1) then k (mpI M r i.toNatClampNeg v) else none
def x_wR {β : Type} (M : mM) (t c : Nat) (a : Option Nat) (i : Int32) (v : Option Nat) (k : mM → Option β) : Option β := match a, v with
  | some r, some q => if mKd M r = t + 3 ∧ ¬ i < 0 ∧ i.toNatClampNeg < mLn M r ∧ mKd M q = c + 10 then k (mpR M r i.toNatClampNeg (some q)) else none
  | _, _ => none
/-- a new cell -/
def mnew (M : mM) (kd len sl : Nat) : mM := (mrow M.1 (16 + mN M) (fun _ => 0), mrow (mRf M) (16 + mN M) (fun _ => none), mrow (mKd M) (16 + mN M) kd, mrow (mLn M) (16 + mN M) len, mN M + 1, mSl M + sl)
def x_nw {β : Type} (M : mM) (c : Nat) (k : Option Nat → mM → Option β) : Option β := k (some (16 + mN M)) (mnew M (c + 10) 0 (mnf c))
def x_na {β : Type} (M : mM) (t : Nat) (n : Int32) (k : Option Nat → mM → Option β) : Option β := if ¬ n < 0 ∧ n.toNatClampNeg < 100000000 then k (some (16 + mN M)) (mnew M (t + 1) n.toNatClampNeg n.toNatClampNeg) else none
section MH
variable {E : mE} {y : mI} {d pc : Nat} {ls : List (Option mV)} {st : List mV} {M : mM} {α : Type} {en : α → Option mV}
theorem m_getI {index c j : Nat} {a : Option Nat} {k : Int32 → Option (α × mM)} (hd : decode y.2.1 pc = .ok (.getfield index, 3)) (hf : mFd y.1.cls index c j) (hr : mfr c j = false) (kk : ∀ x, mVr E y d (pc + 3) ls (.inl x :: st) M en (k x)) : mVr E y d pc ls (.inr a :: st) M en (x_gI M c a j k) := by
  cases a with
  | none => exact m_none
  | some r =>
    unfold x_gI
    dsimp only
    split
    · rename_i hk
      intro b Mf ho
      obtain ⟨h1, h2, kk⟩ := kk _ b Mf ho
      refine ⟨h1, h2, fun p e s m args below meth c H locs la n0 s0 R Q C hS hP hL hn hs hz9 => ?_⟩
      obtain ⟨C', T, N, hc, hj, hlk⟩ := hf
      refine va_get (v := .int (M.1 r j)) C.1 C.2.1 C.2.2.2.2.2.1 hc.2.1 C.2.2.2.2.1 C.2.2.2.2.2.2.2.2.1.1 hP.1 (r - 16) (by rw [mws_get hP (by omega), mcell_o hk]) hc.1 j hj (C.2.2.2.2.2.1 _ hlk) (fun _ h => h) ?_ hd (kk p e s m args below meth c H locs la n0 s0 R Q C hS hP hL hn hs hz9)
      rw [mfs_get (by rw [mnf_of hc]; exact hj)]
      unfold mfv
      rw [hr]
      rfl
    · exact m_none
theorem m_getR {index c j : Nat} {a : Option Nat} {k : Option Nat → Option (α × mM)} (hd : decode y.2.1 pc = .ok (.getfield index, 3)) (hf : mFd y.1.cls index c j) (hr : mfr c j = true) (kk : ∀ x, mVr E y d (pc + 3) ls (.inr x :: st) M en (k x)) : mVr E y d pc ls (.inr a :: st) M en (x_gR M c a j k) := by
  cases a with
  | none => exact m_none
  | some r =>
    unfold x_gR
    dsimp only
    split
    · rename_i hk
      intro b Mf ho
      obtain ⟨h1, h2, kk⟩ := kk _ b Mf ho
      refine ⟨h1, h2, fun p e s m args below meth c H locs la n0 s0 R Q C hS hP hL hn hs hz9 => ?_⟩
      obtain ⟨C', T, N, hc, hj, hlk⟩ := hf
      refine va_get (v := mval E (.inr (mRf M r j))) C.1 C.2.1 C.2.2.2.2.2.1 hc.2.1 C.2.2.2.2.1 C.2.2.2.2.2.2.2.2.1.1 hP.1 (r - 16) (by rw [mws_get hP (by omega), mcell_o hk]) hc.1 j hj (C.2.2.2.2.2.1 _ hlk) (fun _ h => h) ?_ hd (kk p e s m args below meth c H locs la n0 s0 R Q C hS hP hL hn hs hz9)
      rw [mfs_get (by rw [mnf_of hc]; exact hj), mval_r]
      unfold mfv
      rw [if_pos hr]
    · exact m_none
theorem m_iald {a : Option Nat} {i : Int32} {k : Int32 → Option (α × mM)} (hd : decode y.2.1 pc = .ok (.iaload, 1)) (kk : ∀ x, mVr E y d (pc + 1) ls (.inl x :: st) M en (k x)) : mVr E y d pc ls (.inl i :: .inr a :: st) M en (x_aI M 0 a i k) := by
  cases a with
  | none => exact m_none
  | some r =>
    unfold x_aI
    dsimp only
    split
    · rename_i hk
      intro b Mf ho
      obtain ⟨h1, h2, kk⟩ := kk _ b Mf ho
      refine ⟨h1, h2, fun p e s m args below meth c H locs la n0 s0 R Q C hS hP hL hn hs hz9 => ?_⟩
      exact va_iald C.1 C.2.1 C.2.2.2.2.2.2.2.2.1.1 hP.1 (r - 16) 0 (by rw [mws_get hP (by omega), mcell_i hk.1 (by omega)]) (mtys_at rfl) (fun q => q.elim hk.2.1 (fun q => by omega)) hd (kk p e s m args below meth c H locs la n0 s0 R Q C hS hP hL hn hs hz9)
    · exact m_none
theorem m_zald {a : Option Nat} {i : Int32} {k : Int32 → Option (α × mM)} (hd : decode y.2.1 pc = .ok (.baload, 1)) (kk : ∀ x, mVr E y d (pc + 1) ls (.inl x :: st) M en (k x)) : mVr E y d pc ls (.inl i :: .inr a :: st) M en (x_aI M 1 a i k) := by
  cases a with
  | none => exact m_none
  | some r =>
    unfold x_aI
    dsimp only
    split
    · rename_i hk
      intro b Mf ho
      obtain ⟨h1, h2, kk⟩ := kk _ b Mf ho
      refine ⟨h1, h2, fun p e s m args below meth c H locs la n0 s0 R Q C hS hP hL hn hs hz9 => ?_⟩
      exact va_zald C.1 C.2.1 C.2.2.2.2.2.2.2.2.1.1 hP.1 (r - 16) 1 (by rw [mws_get hP (by omega), mcell_i hk.1 (by omega)]) (mtys_at rfl) (fun q => q.elim hk.2.1 (fun q => by omega)) hd (kk p e s m args below meth c H locs la n0 s0 R Q C hS hP hL hn hs hz9)
    · exact m_none
theorem m_aald {t : Nat} {S : String} {a : Option Nat} {i : Int32} {k : Option Nat → Option (α × mM)} (hd : decode y.2.1 pc = .ok (.aaload, 1)) (ht : mtl[t + 2]? = some (.object S)) (kk : ∀ x, mVr E y d (pc + 1) ls (.inr x :: st) M en (k x)) : mVr E y d pc ls (.inl i :: .inr a :: st) M en (x_aR M t a i k) := by
  have htl : t < 7 := by
    have := (List.getElem?_eq_some_iff.mp ht).1
    simp [mtl] at this
    omega
  cases a with
  | none => exact m_none
  | some r =>
    unfold x_aR
    dsimp only
    split
    · rename_i hk
      intro b Mf ho
      obtain ⟨h1, h2, kk⟩ := kk _ b Mf ho
      refine ⟨h1, h2, fun p e s m args below meth c H locs la n0 s0 R Q C hS hP hL hn hs hz9 => ?_⟩
      have kk := kk p e s m args below meth c H locs la n0 s0 R Q C hS hP hL hn hs hz9
      refine va_aldq C.1 C.2.1 C.2.2.2.2.2.2.2.2.1.1 hP.1 (r - 16) (t + 2) (by rw [mws_get hP (by omega), mcell_q hk.1 htl]) (mtys_at ht) (fun q => q.elim hk.2.1 (fun q => by omega)) hd ?_
      rw [List.map_cons, mval_r] at kk
      exact kk
    · exact m_none
theorem m_alen {t : Nat} {ty : FieldType} {a : Option Nat} {k : Int32 → Option (α × mM)} (hd : decode y.2.1 pc = .ok (.arraylength, 1)) (ht : mtl[t]? = some ty) (kk : ∀ x, mVr E y d (pc + 1) ls (.inl x :: st) M en (k x)) : mVr E y d pc ls (.inr a :: st) M en (x_al M t a k) := by
  have htl : t < 5 := by
    have := (List.getElem?_eq_some_iff.mp ht).1
    simpa [mtl] using this
  cases a with
  | none => exact m_none
  | some r =>
    unfold x_al
    dsimp only
    split
    · rename_i hk
      intro b Mf ho
      obtain ⟨h1, h2, kk⟩ := kk _ b Mf ho
      refine ⟨h1, h2, fun p e s m args below meth c H locs la n0 s0 R Q C hS hP hL hn hs hz9 => ?_⟩
      have kk := kk p e s m args below meth c H locs la n0 s0 R Q C hS hP hL hn hs hz9
      by_cases h3 : t < 2
      · exact va_alen (x := (mLn M r, .inl (M.1 r))) C.1 C.2.1 C.2.2.2.2.2.2.2.2.1.1 hP.1 (r - 16) t (by rw [mws_get hP (by omega), mcell_i hk h3]) (mtys_at ht) rfl hd kk
      · obtain ⟨u, rfl⟩ : ∃ u, t = u + 2 := ⟨t - 2, by omega⟩
        exact va_alen (x := (mLn M r, .inr (.inr (.inr (.inr (fun j => (mRf M r j).map (mad E))))))) C.1 C.2.1 C.2.2.2.2.2.2.2.2.1.1 hP.1 (r - 16) (u + 2) (by rw [mws_get hP (by omega), mcell_q hk (by omega)]) (mtys_at ht) rfl hd kk
    · exact m_none
theorem mpI_cell {r j : Nat} {v : Int32} {q : Nat} (h : q ≠ r) : mcell E (mpI M r j v) q = mcell E M q := mcell_congr (mrow_n _ _ h) rfl rfl rfl
theorem mpR_cell {r j : Nat} {v : Option Nat} {q : Nat} (h : q ≠ r) : mcell E (mpR M r j v) q = mcell E M q := mcell_congr rfl (mrow_n _ _ h) rfl rfl
/-- storing in a field: the world behind it -/
theorem m_putw {index c j r : Nat} {v : Value} {M' : mM} {p : Program} {e : Env} {R : Room} {s : State} {m : MethodId} {args : Array Value} {below : List Frame} {meth : Method} {cd : Code} {H : Heap} {locs : List Loc} {cells slots : Nat} {Q : State → Prop} {la : Array Slot} {rest : List Value} (C : mC E y p s m args meth cd) (hS : va_S (mA E) s.heap H locs) (hP : mP E M H) (hd : decode y.2.1 pc = .ok (.putfield index, 3)) (hf : mFp y.1.cls index c j) (hin : (∃ (C : String) (T : u_T) (N : Nat), vwCl[c]? = some (C, T, N) ∧ (T j).2.2.2 = true) → y.1.name = "<init>") (hk : mKd M r = c + 10) (hnar : narrow (mft c j) v = v) (hfit : fits (mft c j) v = true)
    (e1 : mcell E M' r = .inr (c, (mfs E M c r).set j v)) (e2 : ∀ q, q ≠ r → mcell E M' q = mcell E M q) (e3 : mN M' = mN M) (e4 : mKd M' = mKd M)
    (kk : ∀ (H1 : Heap) (locs1 : List Loc), mP E M' H1 → va_S (mA E) s.heap H1 locs1 → W p E.1 e R s m args below meth cd H1 locs1 cells slots Q (F0 m (pc + 3) la rest)) : W p E.1 e R s m args below meth cd H locs cells slots Q (F0 m pc la (v :: .ref (mad E r) :: rest)) := by
  obtain ⟨C', T, N, hc, hj, hlk, hfin⟩ := hf
  have hts := C.2.2.2.2.2.1
  have hown := C.2.2.2.2.1
  have hK := C.2.2.2.2.2.2.2.2.1.1
  have hD := mws_D E M
  have he := mws_get hP (r := r) (by omega)
  rw [mcell_o hk] at he
  have hr16 := (hP.2.2 r (by omega)).1
  have hap := va_apart (own := y.1.cls) hts hc.2.1 (mft c) hc.2.2.1 hc.2.2.2 hK hc.1
  obtain ⟨r', h1, cell, q1, q2, q3, q4⟩ := hP.1 (r - 16) _ he
  have hr : r' = (C', T, N) := Option.some.inj (h1.symm.trans hc.1)
  subst hr
  obtain ⟨hSl, hfc, kC, hkC, hkind⟩ := hK.1 c _ hc.1
  obtain ⟨cf, kf, fi, f, hi, hsl⟩ := hSl j hj
  have hst := (u_facts hfc hkC (u_lays hts hc.2.1 hj) hi).1
  have fin : ∀ H' : Heap, H'[mad E r]? = some (cell.setSlot (((eD E).2 c) j) v) → H'.size = H.size → (∀ q, q ≠ mad E r → H'[q]? = H[q]?) → mP E M' H' ∧ va_S (mA E) s.heap H' (locs ++ [⟨mad E r, ((eD E).2 c) j⟩]) := by
    intro H' g1 g2 g3
    have hl : j < (mfs E M c r).length := by rw [mfs_len, mnf_of hc]; exact hj
    have hset := hP.1.set hD he (e := .inr (c, (mfs E M c r).set j v)) ⟨_, hc.1, t_OB.to (V := updV (vp_V (mfs E M c r)) j v) ⟨_, g1, q2, q3, t_set q4 hap hj v⟩ (fun i _ => vp_updV_set hl v i)⟩ g3
    rw [← e1, mws_set hr16 e3 rfl e2] at hset
    exact ⟨⟨hset, by rw [g2, e3]; exact hP.2.1, by rw [e3, e4]; exact hP.2.2⟩, hS.put g2 g3 (hD.2 _ _ he)⟩
  have hlay := hts _ (hc.2.1 _ (u_in_lay hj))
  unfold u_lay at hlay
  rcases hfin with hfin | ⟨hfin, hdecl⟩
  · rw [if_neg (by rw [hfin]; decide)] at hlay
    have h6 := u_store hfc hkC hkind hlay hi (hc.2.2.1 j hj) hnar hfit
    refine W.putK C.1 C.2.1 (f := f) ⟨hown, hts _ hlk, ⟨_, _, _, hi⟩, hst⟩ (by rw [q2]; exact h6) q1 q3 (by rw [hsl]; exact k2_hasslot (q4 j hj)) rfl rfl hd fun H' g1 g2 g3 => ?_
    rw [hsl] at g1 ⊢
    obtain ⟨a1, a2⟩ := fin H' g1 g2 g3
    exact kk H' _ a1 a2
  · rw [if_pos hfin] at hlay
    have hcf : m.cls = cf := by
      obtain ⟨_, _, c', _, _, _, -, -, hf', -, -, -, hown2, -⟩ := Cond.laysFinal_spec hlay
      have z1 : c' = cf := by have := hi.symm.trans hf'; simp at this; exact this.1.symm
      rw [hdecl] at hown2
      rw [← z1]; exact Option.some.inj (hown.symm.trans hown2)
    have h6 := u_fits hfc hkC hkind (Or.inr hlay) hi (hc.2.2.1 j hj) hnar hfit
    refine W.putFinK C.1 C.2.1 hown (hts _ hlk) hi hst hcf (C.2.2.2.2.2.2.2.1.trans (hin ⟨_, _, _, hc.1, hfin⟩)) (by rw [q2]; exact h6) q1 q3 (by rw [hsl]; exact k2_hasslot (q4 j hj)) rfl rfl hd fun H' g1 g2 g3 => ?_
    rw [hsl] at g1 ⊢
    obtain ⟨a1, a2⟩ := fin H' g1 g2 g3
    exact kk H' _ a1 a2
end MH
end
section
section MH2
variable {E : mE} {y : mI} {d pc : Nat} {ls : List (Option mV)} {st : List mV} {M : mM} {α : Type} {en : α → Option mV}
theorem mfs_setI {c r j : Nat} {v : Int32} (hk : mKd M r = c + 10) (hr : mfr c j = false) : mcell E (mpI M r j v) r = .inr (c, (mfs E M c r).set j (.int v)) := by
  rw [mcell_o (show mKd (mpI M r j v) r = c + 10 from hk)]
  congr 2
  apply List.ext_getElem?
  intro i
  by_cases hi : i < mnf c
  · rw [mfs_get hi]
    by_cases hij : i = j
    · subst hij
      rw [List.getElem?_set_self (by rw [mfs_len]; exact hi)]
      unfold mfv mpI
      rw [hr]
      simp [mrow, upd]
    · rw [List.getElem?_set_ne (Ne.symm hij), mfs_get hi]
      unfold mfv mpI
      simp [mrow, upd, hij]
  · rw [List.getElem?_eq_none (by rw [mfs_len]; omega), List.getElem?_eq_none (by rw [List.length_set, mfs_len]; omega)]
theorem mfs_setR {c r j : Nat} {v : Option Nat} (hk : mKd M r = c + 10) (hr : mfr c j = true) : mcell E (mpR M r j v) r = .inr (c, (mfs E M c r).set j (mval E (.inr v))) := by
  rw [mcell_o (show mKd (mpR M r j v) r = c + 10 from hk)]
  congr 2
  apply List.ext_getElem?
  intro i
  by_cases hi : i < mnf c
  · rw [mfs_get hi]
    by_cases hij : i = j
    · subst hij
      rw [List.getElem?_set_self (by rw [mfs_len]; exact hi), mval_r]
      unfold mfv mpR
      rw [hr]
      simp [mRf, mrow, va_up]
    · rw [List.getElem?_set_ne (Ne.symm hij), mfs_get hi]
      unfold mfv mpR
      simp [mRf, mrow, va_up, hij]
  · rw [List.getElem?_eq_none (by rw [mfs_len]; omega), List.getElem?_eq_none (by rw [List.length_set, mfs_len]; omega)]
theorem m_putI {index c j : Nat} {a : Option Nat} {v : Int32} {k : mM → Option (α × mM)} (hd : decode y.2.1 pc = .ok (.putfield index, 3)) (hf : mFp y.1.cls index c j) (hin : (∃ (C : String) (T : u_T) (N : Nat), vwCl[c]? = some (C, T, N) ∧ (T j).2.2.2 = true) → y.1.name = "<init>") (hr : mft c j = .int) (kk : ∀ M', mVr E y d (pc + 3) ls st M' en (k M')) : mVr E y d pc ls (.inl v :: .inr a :: st) M en (x_pI M c a j v k) := by
  cases a with
  | none => exact m_none
  | some r =>
    unfold x_pI
    dsimp only
    split
    · rename_i hk
      intro b Mf ho
      obtain ⟨h1, h2, kk⟩ := kk _ b Mf ho
      refine ⟨h1, h2, fun p e s m args below meth c H locs la n0 s0 R Q C hS hP hL hn hs hz9 => ?_⟩
      exact m_putw C hS hP hd hf hin hk (by rw [hr]; rfl) (by rw [hr]; rfl) (mfs_setI hk (by unfold mfr; rw [hr]; rfl)) (fun q => mpI_cell) rfl rfl (fun H1 locs1 hP1 hS1 => kk p e s m args below meth c H1 locs1 la n0 s0 R Q C hS1 hP1 hL hn hs hz9)
    · exact m_none
theorem m_putZ {index c j : Nat} {a : Option Nat} {v : Int32} {k : mM → Option (α × mM)} (hd : decode y.2.1 pc = .ok (.putfield index, 3)) (hf : mFp y.1.cls index c j) (hin : (∃ (C : String) (T : u_T) (N : Nat), vwCl[c]? = some (C, T, N) ∧ (T j).2.2.2 = true) → y.1.name = "<init>") (hr : mft c j = .boolean) (kk : ∀ M', mVr E y d (pc + 3) ls st M' en (k M')) : mVr E y d pc ls (.inl v :: .inr a :: st) M en (x_pZ M c a j v k) := by
  cases a with
  | none => exact m_none
  | some r =>
    unfold x_pZ
    dsimp only
    split
    · rename_i hk
      intro b Mf ho
      obtain ⟨h1, h2, kk⟩ := kk _ b Mf ho
      refine ⟨h1, h2, fun p e s m args below meth c H locs la n0 s0 R Q C hS hP hL hn hs hz9 => ?_⟩
      exact m_putw C hS hP hd hf hin hk.1 (by rw [hr]; rcases hk.2 with q | q <;> rw [q] <;> rfl) (by rw [hr]; rcases hk.2 with q | q <;> rw [q] <;> rfl) (mfs_setI hk.1 (by unfold mfr; rw [hr]; rfl)) (fun q => mpI_cell) rfl rfl (fun H1 locs1 hP1 hS1 => kk p e s m args below meth c H1 locs1 la n0 s0 R Q C hS1 hP1 hL hn hs hz9)
    · exact m_none
theorem m_putR {index c j : Nat} {a v : Option Nat} {k : mM → Option (α × mM)} (hd : decode y.2.1 pc = .ok (.putfield index, 3)) (hf : mFp y.1.cls index c j) (hin : (∃ (C : String) (T : u_T) (N : Nat), vwCl[c]? = some (C, T, N) ∧ (T j).2.2.2 = true) → y.1.name = "<init>") (hr : mfr c j = true) (kk : ∀ M', mVr E y d (pc + 3) ls st M' en (k M')) : mVr E y d pc ls (.inr v :: .inr a :: st) M en (x_pR M c a j v k) := by
  cases a with
  | none => exact m_none
  | some r =>
    unfold x_pR
    dsimp only
    split
    · rename_i hk
      intro b Mf ho
      obtain ⟨h1, h2, kk⟩ := kk _ b Mf ho
      refine ⟨h1, h2, fun p e s m args below meth cd H locs la n0 s0 R Q C hS hP hL hn hs hz9 => ?_⟩
      have h3 : narrow (mft c j) (mval E (.inr v)) = mval E (.inr v) ∧ fits (mft c j) (mval E (.inr v)) = true := by
        unfold mfr at hr
        generalize mft c j = ty at hr ⊢
        cases ty <;> first | (simp [refKind] at hr; done) | (rcases v with _ | v <;> exact ⟨rfl, rfl⟩)
      exact m_putw C hS hP hd hf hin hk h3.1 h3.2 (mfs_setR hk hr) (fun q => mpR_cell) rfl rfl (fun H1 locs1 hP1 hS1 => kk p e s m args below meth cd H1 locs1 la n0 s0 R Q C hS1 hP1 hL hn hs hz9)
    · exact m_none
/-- storing in an array: the world behind it -/
theorem m_arrw {r i t : Nat} {x : Int32} {H H1 : Heap} {locs : List Loc} {s : State} (hP : mP E M H) (hS : va_S (mA E) s.heap H locs) (hk : mKd M r = t + 1) (ht : t < 2) (e1 : H1[mad E r]? = some ((vp_cell (eA E t) (mLn M r, .inl (M.1 r))).setSlot i (.int x))) (e2 : H1.size = H.size) (e3 : ∀ q, q ≠ mad E r → H1[q]? = H[q]?) : mP E (mpI M r i x) H1 ∧ va_S (mA E) s.heap H1 (locs ++ [⟨mad E r, i⟩]) := by
  have hD := mws_D E M
  have he := mws_get hP (r := r) (by omega)
  rw [mcell_i hk ht] at he
  have hr16 := (hP.2.2 r (by omega)).1
  have hx : mcell E (mpI M r i x) r = .inl (eA E t, mLn M r, .inl (upd (M.1 r) i x)) := by
    rw [mcell_i (show mKd (mpI M r i x) r = t + 1 from hk) ht]
    simp [mpI, mrow]
  have hset := hP.1.set hD he (e := .inl (eA E t, mLn M r, .inl (upd (M.1 r) i x))) (show H1[mad E r]? = some (vp_cell _ _) by
    rw [e1, vp_cell_i, vp_cell_i, arrV_store]
    congr 2
    funext q
    by_cases hq : q = i
    · subst hq
      simp [updV, upd]
    · simp [updV, upd, hq]) e3
  rw [← hx, mws_set hr16 (show mN (mpI M r i x) = mN M from rfl) rfl (fun q => mpI_cell)] at hset
  exact ⟨⟨hset, by rw [e2]; exact hP.2.1, hP.2.2⟩, hS.put e2 e3 (hD.2 _ _ he)⟩
theorem m_iast {a : Option Nat} {i v : Int32} {k : mM → Option (α × mM)} (hd : decode y.2.1 pc = .ok (.iastore, 1)) (kk : ∀ M', mVr E y d (pc + 1) ls st M' en (k M')) : mVr E y d pc ls (.inl v :: .inl i :: .inr a :: st) M en (x_wI M a i v k) := by
  cases a with
  | none => exact m_none
  | some r =>
    unfold x_wI
    dsimp only
    split
    · rename_i hk
      intro b Mf ho
      obtain ⟨h1, h2, kk⟩ := kk _ b Mf ho
      refine ⟨h1, h2, fun p e s m args below meth c H locs la n0 s0 R Q C hS hP hL hn hs hz9 => ?_⟩
      have he := mws_get hP (r := r) (by omega)
      rw [mcell_i hk.1 (by omega)] at he
      refine W.iast (a := mad E r) C.1 C.2.1 (hP.1 _ _ he) ((C.2.2.2.2.2.2.2.2.1.1.2 0 _ (mtys_at rfl)).1 (mLn M r) (fun j => .int (M.1 r j))) (fun q => by cases q) (by show ¬ (i < 0 ∨ (arrV _ _ _).slots.size ≤ _); rw [arrV_size]; exact fun q => q.elim hk.2.1 (fun q => absurd q (Nat.not_le.mpr hk.2.2))) rfl rfl hd fun H1 e1 e2 e3 => ?_
      obtain ⟨a1, a2⟩ := m_arrw hP hS hk.1 (by omega) e1 e2 e3
      exact kk p e s m args below meth c H1 _ la n0 s0 R Q C a2 a1 hL hn hs hz9
    · exact m_none
theorem m_zast {a : Option Nat} {i v : Int32} {k : mM → Option (α × mM)} (hd : decode y.2.1 pc = .ok (.bastore, 1)) (kk : ∀ M', mVr E y d (pc + 1) ls st M' en (k M')) : mVr E y d pc ls (.inl v :: .inl i :: .inr a :: st) M en (x_wZ M a i v k) := by
  cases a with
  | none => exact m_none
  | some r =>
    unfold x_wZ
    dsimp only
    split
    · rename_i hk
      intro b Mf ho
      obtain ⟨h1, h2, kk⟩ := kk _ b Mf ho
      refine ⟨h1, h2, fun p e s m args below meth c H locs la n0 s0 R Q C hS hP hL hn hs hz9 => ?_⟩
      have he := mws_get hP (r := r) (by omega)
      rw [mcell_i hk.1 (by omega)] at he
      refine W.zast (a := mad E r) C.1 C.2.1 (hP.1 _ _ he) ((C.2.2.2.2.2.2.2.2.1.1.2 1 _ (mtys_at rfl)).1 (mLn M r) (fun j => .int (M.1 r j))) (fun q => by cases q) (by show ¬ (i < 0 ∨ (arrV _ _ _).slots.size ≤ _); rw [arrV_size]; exact fun q => q.elim hk.2.1 (fun q => absurd q (Nat.not_le.mpr hk.2.2.1))) rfl rfl hd fun H1 e1 e2 e3 => ?_
      have hv : narrow .boolean (.int v) = .int v := by rcases hk.2.2.2 with q | q <;> rw [q] <;> rfl
      rw [hv] at e1
      obtain ⟨a1, a2⟩ := m_arrw hP hS hk.1 (by omega) e1 e2 e3
      exact kk p e s m args below meth c H1 _ la n0 s0 R Q C a2 a1 hL hn hs hz9
    · exact m_none
theorem m_aast {t c : Nat} {S : String} {T : u_T} {N : Nat} {a v : Option Nat} {i : Int32} {k : mM → Option (α × mM)} (hd : decode y.2.1 pc = .ok (.aastore, 1)) (ht : mtl[t + 2]? = some (.object S)) (hc : vwCl[c]? = some (S, T, N)) (kk : ∀ M', mVr E y d (pc + 1) ls st M' en (k M')) : mVr E y d pc ls (.inr v :: .inl i :: .inr a :: st) M en (x_wR M t c a i v k) := by
  have htl : t < 7 := by
    have := (List.getElem?_eq_some_iff.mp ht).1
    simp [mtl] at this
    omega
  cases a with
  | none => exact m_none
  | some r =>
    cases v with
    | none => exact m_none
    | some z =>
      unfold x_wR
      dsimp only
      split
      · rename_i hk
        intro b Mf ho
        obtain ⟨h1, h2, kk⟩ := kk _ b Mf ho
        refine ⟨h1, h2, fun p e s m args below meth cd H locs la n0 s0 R Q C hS hP hL hn hs hz9 => ?_⟩
        have hK := C.2.2.2.2.2.2.2.2.1.1
        have he := mws_get hP (r := r) (by omega)
        rw [mcell_q hk.1 htl] at he
        have hz := mws_get hP (r := z) (by omega)
        rw [mcell_o hk.2.2.2] at hz
        have hr16 := (hP.2.2 r (by omega)).1
        have hD := mws_D E M
        obtain ⟨r', hr', cellV, g1, g2, g3, -⟩ := hP.1 _ _ hz
        have hcls := (hK.1 c _ hc).2
        obtain ⟨kA, comp, k1, k2, k3, -⟩ := (hK.2 _ _ (mtys_at ht)).2
        have hcomp : comp = (eD E).1 c := Option.some.inj (k3.symm.trans hcls.1)
        subst hcomp
        obtain ⟨kC, hkC, -⟩ := hcls.2
        refine W.aast (a := mad E r) (v := mad E z) C.1 C.2.1 (hP.1 _ _ he) (fun q h => by cases h) (fun h => by cases h) k1 k2 rfl hkC ⟨hk.2.1, by show _ < (arrV _ _ _).slots.size; rw [arrV_size]; exact hk.2.2.1⟩ g1 (fun q h => by rw [g3] at h; cases h) (by rw [g2]; exact hkC) (by rw [g2]; exact va_assign hcls) rfl rfl hd fun H1 e1 e2 e3 => ?_
        have hx : mcell E (mpR M r i.toNatClampNeg (some z)) r = .inl (eA E (t + 2), mLn M r, .inr (.inr (.inr (.inr (va_up (fun j => (mRf M r j).map (mad E)) i.toNatClampNeg (some (mad E z))))))) := by
          rw [mcell_q (show mKd (mpR M r i.toNatClampNeg (some z)) r = t + 3 from hk.1) htl]
          have hfn : (fun j => (mRf (mpR M r i.toNatClampNeg (some z)) r j).map (mad E)) = va_up (fun j => (mRf M r j).map (mad E)) i.toNatClampNeg (some (mad E z)) := by
            funext j
            by_cases hj : j = i.toNatClampNeg
            · simp [mRf, mpR, mrow, va_up, hj]
            · simp [mRf, mpR, mrow, va_up, hj]
          rw [hfn]
          rfl
        have hset := hP.1.set hD he (e := .inl (eA E (t + 2), mLn M r, .inr (.inr (.inr (.inr (va_up (fun j => (mRf M r j).map (mad E)) i.toNatClampNeg (some (mad E z)))))))) (show H1[mad E r]? = some (vp_cell _ _) by
          rw [e1, vp_cell_q, vp_cell_q, arrV_store]
          congr 2
          funext q
          by_cases hq : q = i.toNatClampNeg
          · subst hq
            simp [updV, va_up, va_rf]
          · simp [updV, va_up, hq]) e3
        rw [← hx, mws_set hr16 (show mN (mpR M r i.toNatClampNeg (some z)) = mN M from rfl) rfl (fun q => mpR_cell)] at hset
        exact kk p e s m args below meth cd H1 _ la n0 s0 R Q C (hS.put e2 e3 (hD.2 _ _ he)) ⟨hset, by rw [e2]; exact hP.2.1, hP.2.2⟩ hL hn hs hz9
      · exact m_none
end MH2
end
section
section MN
variable {E : mE} {y : mI} {d pc : Nat} {ls : List (Option mV)} {st : List mV} {M : mM} {α : Type} {en : α → Option mV}
theorem mad_new (E : mE) (n : Nat) : mad E (16 + n) = eB E + n := by
  unfold mad
  rw [if_neg (by omega)]
  omega
theorem mnew_cell {kd len sl q : Nat} (h : q ≠ 16 + mN M) : mcell E (mnew M kd len sl) q = mcell E M q := mcell_congr (mrow_n _ _ h) (mrow_n _ _ h) (mrow_n _ _ h) (mrow_n _ _ h)
theorem m_newP {kd len sl : Nat} {H H1 : Heap} (hkd : kd ≠ 0) (hP : mP E M H) (z1 : H1.size = eB E + mN M + 1) (o1 : ∀ q : Nat, q < eB E + mN M → H1[q]? = H[q]?) (ha : va_at (eD E) vwCl (eB E + mN M, mcell E (mnew M kd len sl) (16 + mN M)) H1) : mP E (mnew M kd len sl) H1 := by
  refine ⟨fun k q hk => ?_, by rw [z1]; rfl, fun r hr => ?_⟩
  · unfold mws at hk
    rw [List.getElem?_map] at hk
    cases hz : (List.range (mN (mnew M kd len sl)))[k]? with
    | none => rw [hz] at hk; cases hk
    | some z =>
      have hlt := (List.getElem?_eq_some_iff.mp hz).1
      rw [List.length_range] at hlt
      rw [hz] at hk
      rw [List.getElem?_range hlt] at hz
      cases hz
      cases hk
      have hlt : k < mN M + 1 := hlt
      show va_at (eD E) vwCl (eB E + k, mcell E (mnew M kd len sl) (k + 16)) H1
      by_cases hkn : k = mN M
      · subst hkn
        rw [show mN M + 16 = 16 + mN M by omega]
        exact ha
      · rw [mnew_cell (show k + 16 ≠ 16 + mN M by omega)]
        have h9 : (mws E M)[k]? = some (eB E + k, mcell E M (k + 16)) := by
          unfold mws
          rw [List.getElem?_map, List.getElem?_range (by omega)]
          rfl
        exact (hP.1 k _ h9).kept (o1 _ (by show eB E + k < _; omega))
  · by_cases h : r = 16 + mN M
    · subst h
      exact ⟨by omega, by show _ < 16 + (mN M + 1); omega⟩
    · have h2 : mKd M r ≠ 0 := by
        have : mKd (mnew M kd len sl) r = mKd M r := mrow_n _ _ h
        rw [← this]; exact hr
      obtain ⟨a, b⟩ := hP.2.2 r h2
      exact ⟨a, by show _ < 16 + (mN M + 1); omega⟩
theorem m_newS {s : State} {H H1 : Heap} {locs : List Loc} {h : Nat} (hS : va_S (mA E) s.heap H locs) (hh : H.size = h) (z1 : H1.size = h + 1) (o1 : ∀ q : Nat, q < h → H1[q]? = H[q]?) : va_S (mA E) s.heap H1 locs := by
  subst hh
  exact ⟨Nat.le_trans hS.1 (by omega), fun x h1 h2 => (o1 x (Nat.lt_of_lt_of_le h1 hS.1)).trans (hS.2.1 x h1 h2), hS.2.2⟩
theorem m_new {index c : Nat} {C' : String} {T : u_T} {N : Nat} {k : Option Nat → mM → Option (α × mM)} (hd : decode y.2.1 pc = .ok (.new index, 3)) (hc : mCl c C' T N) (hl : Cond.classLink y.1.cls index C' ∈ mtb) (hi : Cond.instantiable C' N ∈ mtb) (hini : Cond.initialized C' ∈ mtb) (hz : ∀ j, j < N → defaultValue (mft c j) = if mfr c j = true then .null else .int 0) (kk : ∀ a M', mVr E y d (pc + 3) ls (.inr a :: st) M' en (k a M')) : mVr E y d pc ls st M en (x_nw M c k) := by
  unfold x_nw
  intro b Mf ho
  obtain ⟨h1, h2, kk⟩ := kk _ _ b Mf ho
  have h1 : mN M + 1 ≤ mN Mf := h1
  have h2 : mSl M + mnf c ≤ mSl Mf := h2
  have hnf := mnf_of hc
  rw [hnf] at h2
  refine ⟨by omega, by omega, fun p e s m args below meth cd H locs la n0 s0 R Q C hS hP hL hn hs hz9 => ?_⟩
  have hts := C.2.2.2.2.2.1
  have hKn := C.2.2.2.2.2.2.2.2.1.1.1 c _ hc.1
  refine W.newcK C.1 C.2.1 C.2.2.2.2.1 (hts _ hl) (hts _ hi) (hts _ hini) rfl hd (Nat.le_trans (show mN M - n0 + 1 ≤ mN Mf - n0 by omega) hz9.2.2.1) (Nat.le_trans (show mSl M - s0 + N ≤ mSl Mf - s0 by omega) hz9.2.2.2.1) hKn.2.1 hP.2.1 fun H1 kC hkC e1 z1 o1 => ?_
  have hP1 : mP E (mnew M (c + 10) 0 (mnf c)) H1 := by
    refine m_newP (by omega) hP z1 o1 ?_
    rw [mcell_o (show mKd (mnew M (c + 10) 0 (mnf c)) (16 + mN M) = c + 10 from mrow_s _ _ _)]
    refine ⟨_, hc.1, (u_born (mft c) hts hc.2.1 hKn hkC e1 hc.2.2.1).to (fun j hj => ?_)⟩
    rw [hz j hj]
    unfold vp_V
    rw [List.getD_eq_getElem?_getD, mfs_get (by rw [hnf]; exact hj)]
    unfold mfv mnew mRf
    simp only [mrow_s, Option.map_none, Option.getD_some]
    rfl
  have w := kk p e s m args below meth cd H1 locs la n0 s0 R Q C (m_newS hS hP.2.1 z1 o1) hP1 hL (Nat.le_trans hn (Nat.le_succ _)) (Nat.le_trans hs (Nat.le_add_right _ _)) hz9
  rw [show mN (mnew M (c + 10) 0 (mnf c)) - n0 = mN M - n0 + 1 by show mN M + 1 - n0 = _; omega, show mSl (mnew M (c + 10) 0 (mnf c)) - s0 = mSl M - s0 + N by show mSl M + mnf c - s0 = _; omega] at w
  have hv : List.map (mval E) (.inr (some (16 + mN M)) :: st) = .ref (eB E + mN M) :: st.map (mval E) := by
    show Value.ref (mad E (16 + mN M)) :: _ = _
    rw [mad_new]
  rw [hv] at w
  exact w
theorem m_newarr {at_ : ArrayType} {t : Nat} {ty : FieldType} {n : Int32} {k : Option Nat → mM → Option (α × mM)} (hd : decode y.2.1 pc = .ok (.newarray at_, 2)) (hty : newarray.typeOf at_ = ty) (ht : mtl[t]? = some ty) (h2 : t < 2) (hb : componentBytes ty ≤ 4) (hz : defaultValue ty = .int 0) (hw : Cond.arrayClass ty ∈ mtb) (hra : ∀ (U : State) (cA : ClassId), va_RA U cA ty → U.vm.findClass ("[" ++ ty.toString) = some cA) (kk : ∀ a M', mVr E y d (pc + 2) ls (.inr a :: st) M' en (k a M')) : mVr E y d pc ls (.inl n :: st) M en (x_na M t n k) := by
  subst hty
  unfold x_na
  split
  · rename_i hk
    intro b Mf ho
    obtain ⟨g1, g2, kk⟩ := kk _ _ b Mf ho
    have g1 : mN M + 1 ≤ mN Mf := g1
    have g2 : mSl M + n.toNatClampNeg ≤ mSl Mf := g2
    refine ⟨by omega, by omega, fun p e s m args below meth cd H locs la n0 s0 R Q C hS hP hL hn hs hz9 => ?_⟩
    have hbytes : n.toNatClampNeg * componentBytes (newarray.typeOf at_) ≤ 536870912 := by
      have : n.toNatClampNeg * componentBytes (newarray.typeOf at_) ≤ n.toNatClampNeg * 4 := Nat.mul_le_mul_left _ hb
      omega
    refine va_newaK C.1 C.2.1 (C.2.2.2.2.2.1 _ hw) rfl hd rfl hk.1 rfl hbytes (Nat.le_trans (show mN M - n0 + 1 ≤ mN Mf - n0 by omega) hz9.2.2.1) (Nat.le_trans (show mSl M - s0 + n.toNatClampNeg ≤ mSl Mf - s0 by omega) hz9.2.2.2.1) hP.2.1 fun H1 cA e1 z1 o1 hAr hNm => ?_
    have hcA : cA = eA E t := Option.some.inj (hNm.symm.trans (hra s (eA E t) (C.2.2.2.2.2.2.2.2.1.1.2 t _ (mtys_at ht)).2))
    subst hcA
    have hP1 : mP E (mnew M (t + 1) n.toNatClampNeg n.toNatClampNeg) H1 := by
      refine m_newP (by omega) hP z1 o1 ?_
      rw [mcell_i (show mKd (mnew M (t + 1) n.toNatClampNeg n.toNatClampNeg) (16 + mN M) = t + 1 from mrow_s _ _ _) h2]
      show H1[eB E + mN M]? = some (vp_cell _ _)
      rw [e1, vp_cell_i, hz]
      unfold mnew mLn
      simp only [mrow_s]
    have w := kk p e s m args below meth cd H1 locs la n0 s0 R Q C (m_newS hS hP.2.1 z1 o1) hP1 hL (Nat.le_trans hn (Nat.le_succ _)) (Nat.le_trans hs (Nat.le_add_right _ _)) hz9
    rw [show mN (mnew M (t + 1) n.toNatClampNeg n.toNatClampNeg) - n0 = mN M - n0 + 1 by show mN M + 1 - n0 = _; omega, show mSl (mnew M (t + 1) n.toNatClampNeg n.toNatClampNeg) - s0 = mSl M - s0 + n.toNatClampNeg by show mSl M + n.toNatClampNeg - s0 = _; omega] at w
    have hv : List.map (mval E) (.inr (some (16 + mN M)) :: st) = .ref (eB E + mN M) :: st.map (mval E) := by
      show Value.ref (mad E (16 + mN M)) :: _ = _
      rw [mad_new]
    rw [hv] at w
    exact w
  · exact m_none
theorem m_anew {index t : Nat} {S : String} {n : Int32} {k : Option Nat → mM → Option (α × mM)} (hd : decode y.2.1 pc = .ok (.anewarray index, 3)) (ht : mtl[t + 2]? = some (.object S)) (hcl : Cond.classLink y.1.cls index S ∈ mtb) (hao : Cond.arrayOver (.object S) ∈ mnw) (kk : ∀ a M', mVr E y d (pc + 3) ls (.inr a :: st) M' en (k a M')) : mVr E y d pc ls (.inl n :: st) M en (x_na M (t + 2) n k) := by
  have htl : t < 7 := by
    have := (List.getElem?_eq_some_iff.mp ht).1
    simp [mtl] at this
    omega
  unfold x_na
  split
  · rename_i hk
    intro b Mf ho
    obtain ⟨g1, g2, kk⟩ := kk _ _ b Mf ho
    have g1 : mN M + 1 ≤ mN Mf := g1
    have g2 : mSl M + n.toNatClampNeg ≤ mSl Mf := g2
    refine ⟨by omega, by omega, fun p e s m args below meth cd H locs la n0 s0 R Q C hS hP hL hn hs hz9 => ?_⟩
    have hover : va_AO S s := C.2.2.2.2.2.2.2.2.1.2.2.2 _ hao
    refine W.anew C.1 C.2.1 C.2.2.2.2.1 (C.2.2.2.2.2.1 _ hcl) (va_AO.use hover) rfl hd rfl hk.1 (by omega) (Nat.le_trans (show mN M - n0 + 1 ≤ mN Mf - n0 by omega) hz9.2.2.1) (Nat.le_trans (show mSl M - s0 + n.toNatClampNeg ≤ mSl Mf - s0 by omega) hz9.2.2.2.1) fun cA kA comp f1 f2 f3 f4 => ?_
    generalize hH1 : H.push ({ cls := cA, slots := Array.replicate n.toNatClampNeg .null, vm := .none } : Cell) = H1
    have z1 : H1.size = H.size + 1 := by rw [← hH1, Array.size_push]
    have e1 : H1[H.size]? = some (arrV cA n.toNatClampNeg (fun _ => .null)) := by rw [← hH1, Array.getElem?_push_size, ← arrV_new]
    have o1 : ∀ q : Nat, q < H.size → H1[q]? = H[q]? := fun q hq => by rw [← hH1, Array.getElem?_push, if_neg (Nat.ne_of_lt hq)]
    rw [hP.2.1] at z1 e1 o1 ⊢
    have hcA : cA = eA E (t + 2) := by
      obtain ⟨kA', comp', k1, k2, k3, k4⟩ := (C.2.2.2.2.2.2.2.2.1.1.2 (t + 2) _ (mtys_at ht)).2
      exact Option.some.inj (f1.symm.trans k4)
    subst hcA
    have hP1 : mP E (mnew M (t + 2 + 1) n.toNatClampNeg n.toNatClampNeg) H1 := by
      refine m_newP (by omega) hP z1 o1 ?_
      rw [mcell_q (show mKd (mnew M (t + 2 + 1) n.toNatClampNeg n.toNatClampNeg) (16 + mN M) = t + 3 from mrow_s _ _ _) htl]
      show H1[eB E + mN M]? = some (vp_cell _ _)
      rw [e1, vp_cell_q]
      unfold mnew mLn mRf
      simp only [mrow_s]
      rfl
    have w := kk p e s m args below meth cd H1 locs la n0 s0 R Q C (m_newS hS hP.2.1 z1 o1) hP1 hL (Nat.le_trans hn (Nat.le_succ _)) (Nat.le_trans hs (Nat.le_add_right _ _)) hz9
    rw [show mN (mnew M (t + 2 + 1) n.toNatClampNeg n.toNatClampNeg) - n0 = mN M - n0 + 1 by show mN M + 1 - n0 = _; omega, show mSl (mnew M (t + 2 + 1) n.toNatClampNeg n.toNatClampNeg) - s0 = mSl M - s0 + n.toNatClampNeg by show mSl M + n.toNatClampNeg - s0 = _; omega] at w
    have hv : List.map (mval E) (.inr (some (16 + mN M)) :: st) = .ref (eB E + mN M) :: st.map (mval E) := by
      show Value.ref (mad E (16 + mN M)) :: _ = _
      rw [mad_new]
    rw [hv] at w
    exact w
  · exact m_none
theorem mcats (E : mE) (st : List mV) : ((st.map (mval E)).map fun v => v.category).sum = st.length := by
  induction st with
  | nil => rfl
  | cons a l ih =>
    simp only [List.map_cons, List.sum_cons, List.length_cons]
    rw [ih, mval_cat]
    omega
theorem m_objInit {index : Nat} {r : Nat} {o : Option (α × mM)} (hd : decode y.2.1 pc = .ok (.invokespecial index, 3)) (hl : Cond.methodLink y.1.cls index Lib.objectInit ∈ mtb) (hi : Cond.instanceMethod Lib.objectInit ∈ mtb) (hcd : Cond.code Lib.objectInit ⟨#[0xb1]⟩ 1 none ∈ mtb) (hdd : st.length + 12 ≤ 40 * d) (k : mVr E y d (pc + 3) ls st M en o) : mVr E y d pc ls (.inr (some r) :: st) M en o := by
  intro b Mf ho
  obtain ⟨h1, h2, kk⟩ := k b Mf ho
  refine ⟨h1, h2, fun p e s m args below meth cd H locs la n0 s0 R Q C hS hP hL hn hs hz9 => ?_⟩
  have hts := C.2.2.2.2.2.1
  exact W.objInit C.1 C.2.1 C.2.2.2.2.1 (hts _ hl) (hts _ hi) (hts _ hcd) rfl (by rw [C.2.2.2.1]; exact hL.1) (rest := st.map (mval E)) rfl hd (Nat.le_trans (show 1 ≤ d by omega) hz9.1) (by rw [mcats]; exact Nat.le_trans (show 2 * 0 + st.length + 12 ≤ 40 * d by omega) hz9.2.1) (kk p e s m args below meth cd H locs la n0 s0 R Q C hS hP hL hn hs hz9)
end MN
end
section
/-! statics, the script, copies, least and greatest, switches -/
def x_sI {β : Type} (a : Option Nat) (i : Int32) (k : Int32 → Option β) : Option β := match a with
  | none => none
  | some q => if ¬ i < 0 ∧ i.toNatClampNeg < mtN q then k (mtF q i.toNatClampNeg) else none
def x_sl {β : Type} (a : Option Nat) (k : Int32 → Option β) : Option β := match a with
  | none => none
  | some q => if 0 < mtN q then k (Int32.ofNat (mtN q)) else none
def x_xI {β : Type} (L : Nat) (xs : Nat → Int32) (i : Int32) (k : Int32 → Option β) : Option β := if ¬ i < 0 ∧ i.toNatClampNeg < L then k (xs i.toNatClampNeg) else none
theorem mst_of {q : Nat} (h : 0 < mtN q) : q < 16 ∧ ∃ x ∈ mst, x.1 = q := by
  match q, h with
  | 0, h => simp [mtN, mtV] at h
  | 1, _ => exact ⟨by omega, _, List.mem_of_getElem? (i := 0) rfl, rfl⟩
  | 2, _ => exact ⟨by omega, _, List.mem_of_getElem? (i := 1) rfl, rfl⟩
  | 3, _ => exact ⟨by omega, _, List.mem_of_getElem? (i := 2) rfl, rfl⟩
  | 4, _ => exact ⟨by omega, _, List.mem_of_getElem? (i := 3) rfl, rfl⟩
  | q + 5, h => simp [mtN, mtV] at h
theorem mad_st (E : mE) {q : Nat} (h : q < 16) : mad E q = eS E q := if_pos h
section MS
variable {E : mE} {y : mI} {d pc : Nat} {ls : List (Option mV)} {st : List mV} {M : mM} {α : Type} {en : α → Option mV}
theorem m_gets {index q : Nat} {S n dd : String} {o : Option (α × mM)} (hq : (q, S, n, dd) ∈ mst) (hq2 : q < 16) (hd : decode y.2.1 pc = .ok (.getstatic index, 3)) (hl : Cond.fieldLink y.1.cls index S n dd ∈ mtb) (k : mVr E y d (pc + 3) ls (.inr (some q) :: st) M en o) : mVr E y d pc ls st M en o := by
  intro b Mf ho
  obtain ⟨h1, h2, kk⟩ := k b Mf ho
  refine ⟨h1, h2, fun p e s m args below meth cd H locs la n0 s0 R Q C hS hP hL hn hs hz9 => ?_⟩
  have hz := (C.2.2.2.2.2.2.2.2.1.2.1 _ hq).1
  have w := kk p e s m args below meth cd H locs la n0 s0 R Q C hS hP hL hn hs hz9
  rw [show List.map (mval E) (.inr (some q) :: st) = .ref (eS E q) :: st.map (mval E) by show Value.ref (mad E q) :: _ = _; rw [mad_st E hq2]] at w
  exact va_gets C.1 C.2.1 hz hS C.2.2.2.2.1 (C.2.2.2.2.2.1 _ hl) (fun _ h => h) hd w
theorem m_getsN {index q : Nat} {S n dd host : String} {o : Option (α × mM)} (hq : (q, S, n, dd) ∈ mst) (hq2 : q < 16) (hd : decode y.2.1 pc = .ok (.getstatic index, 3)) (hl : Cond.fieldLinkNest y.1.cls index S n dd host ∈ mnw) (k : mVr E y d (pc + 3) ls (.inr (some q) :: st) M en o) : mVr E y d pc ls st M en o := by
  intro b Mf ho
  obtain ⟨h1, h2, kk⟩ := k b Mf ho
  refine ⟨h1, h2, fun p e s m args below meth cd H locs la n0 s0 R Q C hS hP hL hn hs hz9 => ?_⟩
  have hz := (C.2.2.2.2.2.2.2.2.1.2.1 _ hq).1
  have w := kk p e s m args below meth cd H locs la n0 s0 R Q C hS hP hL hn hs hz9
  rw [show List.map (mval E) (.inr (some q) :: st) = .ref (eS E q) :: st.map (mval E) by show Value.ref (mad E q) :: _ = _; rw [mad_st E hq2]] at w
  exact va_getsN C.1 C.2.1 hz hS C.2.2.2.2.1 (va_Nw.use rfl (C.2.2.2.2.2.2.2.2.1.2.2.2 _ hl)) (fun _ h => h) hd w
theorem m_sld {a : Option Nat} {i : Int32} {k : Int32 → Option (α × mM)} (hd : decode y.2.1 pc = .ok (.iaload, 1)) (kk : ∀ x, mVr E y d (pc + 1) ls (.inl x :: st) M en (k x)) : mVr E y d pc ls (.inl i :: .inr a :: st) M en (x_sI a i k) := by
  cases a with
  | none => exact m_none
  | some q =>
    unfold x_sI
    dsimp only
    split
    · rename_i hk
      intro b Mf ho
      obtain ⟨h1, h2, kk⟩ := kk _ b Mf ho
      refine ⟨h1, h2, fun p e s m args below meth cd H locs la n0 s0 R Q C hS hP hL hn hs hz9 => ?_⟩
      obtain ⟨hq, x, hx, rfl⟩ := mst_of (q := q) (by omega)
      have hT := (C.2.2.2.2.2.2.2.2.1.2.1 _ hx).2
      rw [show List.map (mval E) (.inl i :: .inr (some x.1) :: st) = .int i :: .ref (eS E x.1) :: st.map (mval E) by show Value.int i :: Value.ref (mad E x.1) :: _ = _; rw [mad_st E hq]]
      exact va_ti C.1 C.2.1 hT hS (fun z => z.elim hk.1 (fun z => absurd z (Nat.not_le.mpr hk.2))) rfl hd (kk p e s m args below meth cd H locs la n0 s0 R Q C hS hP hL hn hs hz9)
    · exact m_none
theorem m_slen {a : Option Nat} {k : Int32 → Option (α × mM)} (hd : decode y.2.1 pc = .ok (.arraylength, 1)) (kk : ∀ x, mVr E y d (pc + 1) ls (.inl x :: st) M en (k x)) : mVr E y d pc ls (.inr a :: st) M en (x_sl a k) := by
  cases a with
  | none => exact m_none
  | some q =>
    unfold x_sl
    dsimp only
    split
    · rename_i hk
      intro b Mf ho
      obtain ⟨h1, h2, kk⟩ := kk _ b Mf ho
      refine ⟨h1, h2, fun p e s m args below meth cd H locs la n0 s0 R Q C hS hP hL hn hs hz9 => ?_⟩
      obtain ⟨hq, x, hx, rfl⟩ := mst_of hk
      have hT := (C.2.2.2.2.2.2.2.2.1.2.1 _ hx).2
      rw [show List.map (mval E) (.inr (some x.1) :: st) = .ref (eS E x.1) :: st.map (mval E) by show Value.ref (mad E x.1) :: _ = _; rw [mad_st E hq]]
      exact va_tlen C.1 C.2.1 hT hS rfl hd (kk p e s m args below meth cd H locs la n0 s0 R Q C hS hP hL hn hs hz9)
    · exact m_none
theorem m_xld {i : Int32} {k : Int32 → Option (α × mM)} (hd : decode y.2.1 pc = .ok (.iaload, 1)) (kk : ∀ x, mVr E y d (pc + 1) ls (.inl x :: st) M en (k x)) : mVr E y d pc ls (.inl i :: .inr (some 0) :: st) M en (x_xI (eL E) (eX E) i k) := by
  unfold x_xI
  split
  · rename_i hk
    intro b Mf ho
    obtain ⟨h1, h2, kk⟩ := kk _ b Mf ho
    refine ⟨h1, h2, fun p e s m args below meth cd H locs la n0 s0 R Q C hS hP hL hn hs hz9 => ?_⟩
    exact va_ti C.1 C.2.1 C.2.2.2.2.2.2.2.2.1.2.2.1 hS (fun z => z.elim hk.1 (fun z => absurd z (Nat.not_le.mpr hk.2))) rfl hd (kk p e s m args below meth cd H locs la n0 s0 R Q C hS hP hL hn hs hz9)
  · exact m_none
theorem m_xlen {o : Option (α × mM)} (hd : decode y.2.1 pc = .ok (.arraylength, 1)) (kk : mVr E y d (pc + 1) ls (.inl (Int32.ofNat (eL E)) :: st) M en o) : mVr E y d pc ls (.inr (some 0) :: st) M en o := by
  intro b Mf ho
  obtain ⟨h1, h2, kk⟩ := kk b Mf ho
  refine ⟨h1, h2, fun p e s m args below meth cd H locs la n0 s0 R Q C hS hP hL hn hs hz9 => ?_⟩
  exact va_tlen C.1 C.2.1 C.2.2.2.2.2.2.2.2.1.2.2.1 hS rfl hd (kk p e s m args below meth cd H locs la n0 s0 R Q C hS hP hL hn hs hz9)
/-- the lesser, the greater -/
theorem m_min {index : Nat} {a b : Int32} {o : Option (α × mM)} (hd : decode y.2.1 pc = .ok (.invokestatic index, 3)) (hl : Cond.methodLink y.1.cls index Lib.Math.min.name ∈ mtb) (hs : Cond.static Lib.Math.min.name ∈ mtb) (hi : Cond.initialized "java/lang/Math" ∈ mtb) (hc : Cond.code Lib.Math.min.name Lib.Math.min.code 2 (some .int) ∈ mtb) (hdd : st.length + 13 ≤ 40 * d) (k : mVr E y d (pc + 3) ls (.inl (if b < a then b else a) :: st) M en o) : mVr E y d pc ls (.inl b :: .inl a :: st) M en o := by
  intro z Mf ho
  obtain ⟨h1, h2, kk⟩ := k z Mf ho
  refine ⟨h1, h2, fun p e s m args below meth cd H locs la n0 s0 R Q C hS hP hL hn hs2 hz9 => ?_⟩
  have hts := C.2.2.2.2.2.1
  exact va_mmin C.1 C.2.1 (by rw [C.2.2.2.1, hL.1]) C.2.2.2.2.1 (hts _ hl) (hts _ hs) (hts _ hi) (hts _ hc) (Nat.le_trans (show 1 ≤ d by omega) hz9.1) (by rw [mcats]; exact Nat.le_trans hdd hz9.2.1) (Nat.le_trans (show mN M - n0 ≤ mN Mf - n0 by omega) hz9.2.2.1) (Nat.le_trans (show mSl M - s0 ≤ mSl Mf - s0 by omega) hz9.2.2.2.1) hd (kk p e s m args below meth cd H locs la n0 s0 R Q C hS hP hL hn hs2 hz9)
theorem m_max {index : Nat} {a b : Int32} {o : Option (α × mM)} (hd : decode y.2.1 pc = .ok (.invokestatic index, 3)) (hl : Cond.methodLink y.1.cls index Lib.Math.max.name ∈ mtb) (hs : Cond.static Lib.Math.max.name ∈ mtb) (hi : Cond.initialized "java/lang/Math" ∈ mtb) (hc : Cond.code Lib.Math.max.name Lib.Math.max.code 2 (some .int) ∈ mtb) (hdd : st.length + 13 ≤ 40 * d) (k : mVr E y d (pc + 3) ls (.inl (if a < b then b else a) :: st) M en o) : mVr E y d pc ls (.inl b :: .inl a :: st) M en o := by
  intro z Mf ho
  obtain ⟨h1, h2, kk⟩ := k z Mf ho
  refine ⟨h1, h2, fun p e s m args below meth cd H locs la n0 s0 R Q C hS hP hL hn hs2 hz9 => ?_⟩
  have hts := C.2.2.2.2.2.1
  exact va_mmax C.1 C.2.1 (by rw [C.2.2.2.1, hL.1]) C.2.2.2.2.1 (hts _ hl) (hts _ hs) (hts _ hi) (hts _ hc) (Nat.le_trans (show 1 ≤ d by omega) hz9.1) (by rw [mcats]; exact Nat.le_trans hdd hz9.2.1) (Nat.le_trans (show mN M - n0 ≤ mN Mf - n0 by omega) hz9.2.2.1) (Nat.le_trans (show mSl M - s0 ≤ mSl Mf - s0 by omega) hz9.2.2.2.1) hd (kk p e s m args below meth cd H locs la n0 s0 R Q C hS hP hL hn hs2 hz9)
/-- switches -/
theorem m_sw {x : Int32} {cs : List (Int32 × Option (α × mM))} {z : Option (α × mM)} (hc : ∀ c ∈ cs, mVr E y d pc ls (.inl c.1 :: st) M en c.2) (hz : (∀ c ∈ cs, x ≠ c.1) → mVr E y d pc ls (.inl x :: st) M en z) : mVr E y d pc ls (.inl x :: st) M en (x_sw x cs z) := by
  induction cs with
  | nil => exact hz (fun c h => by cases h)
  | cons c cs ih =>
    obtain ⟨k, b⟩ := c
    unfold x_sw
    split
    · rename_i h
      subst h
      exact hc _ List.mem_cons_self
    · rename_i h
      exact ih (fun c hm => hc c (List.mem_cons_of_mem _ hm)) (fun hne => hz (fun c hm => (List.mem_cons.mp hm).elim (fun e => by rw [e]; exact h) (hne c)))
theorem m_tin {dflt lo hi : Int} {offs : Array Int} {len tgt : Nat} {x : Int32} {off : Int} {o : Option (α × mM)} (hd : decode y.2.1 pc = .ok (.tableswitch dflt lo hi offs, len)) (h1 : ¬ x.toInt < lo) (h2 : ¬ hi < x.toInt) (h3 : offs[(x.toInt - lo).toNat]? = some off) (ht : (pc : Int) + off = (tgt : Int)) (k : mVr E y d tgt ls st M en o) : mVr E y d pc ls (.inl x :: st) M en o := m_go k (fun C _ w => lv_tableIn C.1 C.2.1 hd h1 h2 h3 ht w)
theorem m_tout {dflt lo hi : Int} {offs : Array Int} {len tgt : Nat} {x : Int32} {ks : List Int32} {o : Option (α × mM)} (hd : decode y.2.1 pc = .ok (.tableswitch dflt lo hi offs, len)) (hk : ∀ k ∈ ks, x ≠ k) (hks : ∀ j : Nat, j < (hi + 1 - lo).toNat → ∃ k ∈ ks, k.toInt = lo + j) (ht : (pc : Int) + dflt = (tgt : Int)) (k : mVr E y d tgt ls st M en o) : mVr E y d pc ls (.inl x :: st) M en o := by
  refine m_go k (fun C _ w => lv_tableOut C.1 C.2.1 hd ?_ ht w)
  by_cases h1 : x.toInt < lo
  · exact Or.inl h1
  · by_cases h2 : hi < x.toInt
    · exact Or.inr h2
    · exfalso
      obtain ⟨k, hk1, hk2⟩ := hks (x.toInt - lo).toNat (by omega)
      exact hk k hk1 (Int32.toInt_inj.mp (by rw [hk2]; omega))
theorem m_lin {dflt : Int} {ps : Array (Int × Int)} {len tgt : Nat} {x : Int32} {off : Int} {o : Option (α × mM)} (hd : decode y.2.1 pc = .ok (.lookupswitch dflt ps, len)) (hp : (ps.toList.zip (ps.toList.drop 1)).all (fun (a, next) => a.1 < next.1) = true) (ho : Op.lookupswitch.offset ps.toList dflt x.toInt = off) (ht : (pc : Int) + off = (tgt : Int)) (k : mVr E y d tgt ls st M en o) : mVr E y d pc ls (.inl x :: st) M en o := m_go k (fun C _ w => lv_lookup C.1 C.2.1 hd hp ho ht w)
theorem m_offs {x : Int32} {dflt : Int} : ∀ (ps : List (Int × Int)), (∀ q ∈ ps, x.toInt ≠ q.1) → Op.lookupswitch.offset ps dflt x.toInt = dflt
  | [], _ => rfl
  | (a, b) :: l, h => by
    rw [Op.lookupswitch.offset_cons, if_neg (fun q => h (a, b) List.mem_cons_self q.symm)]
    exact m_offs l (fun q hq => h q (List.mem_cons_of_mem _ hq))
theorem m_lout {dflt : Int} {ps : Array (Int × Int)} {len tgt : Nat} {x : Int32} {ks : List Int32} {o : Option (α × mM)} (hd : decode y.2.1 pc = .ok (.lookupswitch dflt ps, len)) (hp : (ps.toList.zip (ps.toList.drop 1)).all (fun (a, next) => a.1 < next.1) = true) (hk : ∀ k ∈ ks, x ≠ k) (hks : ks.map Int32.toInt = ps.toList.map Prod.fst) (ht : (pc : Int) + dflt = (tgt : Int)) (k : mVr E y d tgt ls st M en o) : mVr E y d pc ls (.inl x :: st) M en o := by
  refine m_lin hd hp (m_offs _ (fun q hq e => ?_)) ht k
  have h1 : q.1 ∈ ks.map Int32.toInt := by rw [hks]; exact List.mem_map_of_mem hq
  obtain ⟨z, hz, hze⟩ := List.mem_map.mp h1
  exact hk z hz (Int32.toInt_inj.mp (by rw [e, hze]))
/-- the end of a method -/
def x_rz (x : Int32) (M : mM) : Option (Int32 × mM) := if x = 0 ∨ x = 1 then some (x, M) else none
theorem m_iret {x : Int32} (hd : decode y.2.1 pc = .ok (.ireturn, 1)) (hr : y.2.2.2 = some .int) : mVr E y d pc ls [.inl x] M enI (some (x, M)) := by
  intro b Mf ho
  cases ho
  refine ⟨Nat.le_refl _, Nat.le_refl _, fun p e s m args below meth cd H locs la n0 s0 R Q C hS hP hL hn hs hz9 => ?_⟩
  exact hz9.2.2.2.2 pc H locs la hS hP (by rw [hr]; exact hd) (fun h => by rw [hr] at h; cases h)
theorem m_zret {x : Int32} (hd : decode y.2.1 pc = .ok (.ireturn, 1)) (hr : y.2.2.2 = some .boolean) : mVr E y d pc ls [.inl x] M enI (x_rz x M) := by
  unfold x_rz
  split
  · rename_i hx
    intro b Mf ho
    cases ho
    refine ⟨Nat.le_refl _, Nat.le_refl _, fun p e s m args below meth cd H locs la n0 s0 R Q C hS hP hL hn hs hz9 => ?_⟩
    exact hz9.2.2.2.2 pc H locs la hS hP (by rw [hr]; exact hd) (fun _ => by rcases hx with q | q <;> rw [q]; exact Or.inl rfl; exact Or.inr rfl)
  · exact m_none
theorem m_vret (hd : decode y.2.1 pc = .ok (.return_, 1)) (hr : y.2.2.2 = none) : mVr E y d pc ls [] M enU (some ((), M)) := by
  intro b Mf ho
  cases ho
  refine ⟨Nat.le_refl _, Nat.le_refl _, fun p e s m args below meth cd H locs la n0 s0 R Q C hS hP hL hn hs hz9 => ?_⟩
  exact hz9.2.2.2.2 pc H locs la hS hP (by rw [hr]; exact hd) (fun h => by rw [hr] at h; cases h)
theorem m_aret {x : Option Nat} {S : String} (hd : decode y.2.1 pc = .ok (.areturn, 1)) (hr : y.2.2.2 = some (.object S)) : mVr E y d pc ls [.inr x] M enR (some (x, M)) := by
  intro b Mf ho
  cases ho
  refine ⟨Nat.le_refl _, Nat.le_refl _, fun p e s m args below meth cd H locs la n0 s0 R Q C hS hP hL hn hs hz9 => ?_⟩
  exact hz9.2.2.2.2 pc H locs la hS hP (by rw [hr]; exact hd) (fun h => by rw [hr] at h; cases h)
end MS
end
section
/-! copies, calls, the entry -/
def mcp (M : mM) (r0 r1 sp dp n : Nat) : mM := (mrow M.1 r1 (va_cpy (M.1 r0) (M.1 r1) sp dp n), M.2)
def x_cp {β : Type} (M : mM) (a0 : Option Nat) (sp : Int32) (a1 : Option Nat) (dp n : Int32) (k : mM → Option β) : Option β := match a0, a1 with
  | some r0, some r1 => if mKd M r0 = 1 ∧ mKd M r1 = 1 ∧ ¬ sp < 0 ∧ ¬ dp < 0 ∧ ¬ n < 0 ∧ sp.toNatClampNeg + n.toNatClampNeg ≤ mLn M r0 ∧ dp.toNatClampNeg + n.toNatClampNeg ≤ mLn M r1 then k (mcp M r0 r1 sp.toNatClampNeg dp.toNatClampNeg n.toNatClampNeg) else none
  | _, _ => none
def x_cl {β γ : Type} (o : Option (β × mM)) (k : β → mM → Option γ) : Option γ := match o with
  | none => none
  | some (b, M) => k b M
def x_cv {β γ : Type} (M : mM) (c : Nat) (a : Option Nat) (o : Option (β × mM)) (k : β → mM → Option γ) : Option γ := match a with
  | none => none
  | some r => if mKd M r = c + 10 then x_cl o k else none
def x_ci {β γ : Type} (a : Option Nat) (o : Option (β × mM)) (k : β → mM → Option γ) : Option γ := match a with
  | none => none
  | some _ => x_cl o k
theorem mnw_warm {s U : State} (hW : s.WarmedH U.vm) : ∀ w ∈ mnw, va_Nw w s → va_Nw w U := by
  intro w hw h
  unfold mnw at hw
  repeat (first
    | (cases hw; done)
    | (rcases List.mem_cons.mp hw with rfl | hw
       · first
         | exact va_Nw.warmM hW h
         | exact va_Nw.warmF hW h
         | exact va_AO.moved hW.alike h))
theorem mnw_same {s U : State} (hvm : U.vm = s.vm) : ∀ w ∈ mnw, va_Nw w s → va_Nw w U := by
  intro w hw h
  unfold mnw at hw
  repeat (first
    | (cases hw; done)
    | (rcases List.mem_cons.mp hw with rfl | hw
       · first
         | exact va_Nw.same rfl hvm.symm h
         | exact va_AO.moved (by rw [hvm]; exact Vm.Alike.refl _) h))
theorem mG_same {E : mE} {U U' : State} (hvm : U'.vm = U.vm) (hh : U'.heap = U.heap) (h : mG E U) : mG E U' := by
  have ha : U.vm.Alike U'.vm := by rw [hvm]; exact Vm.Alike.refl _
  refine ⟨va_K.moved ha h.1, fun q hq => ?_, ?_, fun w hw => ?_⟩
  · obtain ⟨h1, h2⟩ := h.2.1 q hq
    rw [hh]
    exact ⟨h1.moved ha, h2.moved ha⟩
  · rw [hh]
    exact h.2.2.1.moved ha
  · exact mnw_same hvm w hw (h.2.2.2 w hw)
theorem mG_call {E : mE} {s U : State} {H : Heap} {locs : List Loc} (h : mG E s) (hS : va_S (mA E) s.heap H locs) (hU : U.heap = H) (hW : s.WarmedH U.vm) : mG E U := by
  have ha := hW.alike
  have hq : ∀ a : Nat, a < s.heap.size → ¬ (mA E) a → U.heap[a]? = s.heap[a]? := fun a h1 h2 => by rw [hU]; exact hS.2.1 a h1 h2
  refine ⟨va_K.moved ha h.1, fun q hm => ?_, (h.2.2.1.moved ha).kept hq, fun w hw => mnw_warm hW w hw (h.2.2.2 w hw)⟩
  obtain ⟨h1, h2⟩ := h.2.1 q hm
  exact ⟨(h1.moved ha).kept hq, (h2.moved ha).kept hq⟩
theorem mBlind (E : mE) (M : mM) (av : List Value) : FrameBlind (va_Pc av (fun U => mG E U ∧ mP E M U.heap)) := fun a U g mk h => ⟨h.1, mG_same (U := U) (U' := U.calling g mk a) rfl rfl h.2.1, h.2.2⟩
theorem mGood {y : mI} (h : Cond.code y.1 y.2.1 y.2.2.1 y.2.2.2 ∈ mtb) : GoodIn mtb (mWs y) := by
  intro w hw
  have hm : w ∈ mtb := (List.mem_cons.mp hw).elim (fun e => by rw [e]; exact h) id
  exact ⟨hm, good_of_word (List.mem_filter.mp hm).2⟩
/-- what the tables say of a call -/
def mCd (y : mI) (n : Nat) : Prop := Cond.code y.1 y.2.1 y.2.2.1 y.2.2.2 ∈ mtb ∧ Cond.initialized y.1.cls ∈ mtb ∧ y.2.2.1 ≤ 21 ∧ y.1.cls ≠ "java/lang/invoke/MethodHandle" ∧ y.1.cls ≠ "java/lang/invoke/VarHandle" ∧ (parseMethodDescriptor y.1.desc).map (fun d => d.parameters.length) = some n
section MCL
variable {E : mE} {y : mI} {d pc : Nat} {ls : List (Option mV)} {st : List mV} {M : mM} {α : Type} {en : α → Option mV}
theorem m_after {p : Program} {e : Env} {R : Room} {s : State} {m : MethodId} {args : Array Value} {below : List Frame} {meth : Method} {c : Code} {H : Heap} {locs : List Loc} {cells slots mc ms : Nat} {Q : State → Prop} {la : Array Slot} {st0 rest : List Value} {v : Option mV} {M2 : mM} {a : Array Value} (hr : va_Run p E.1 e R s m args below meth c H locs cells slots mc ms (F0 m pc la st0) rest (mQ E v M2 a) (mA E)) (hS : va_S (mA E) s.heap H locs)
    (kk : ∀ (H1 : Heap) (locs1 : List Loc), mP E M2 H1 → va_S (mA E) s.heap H1 locs1 → W p E.1 e R s m args below meth c H1 locs1 (cells + mc) (slots + ms) Q (F0 m (pc + 3) la ((v.map (mval E)).toList ++ rest))) : W p E.1 e R s m args below meth c H locs cells slots Q (F0 m pc la st0) := by
  intro T hT X
  obtain ⟨v', st₀, t, T', L, h0, X', hL, e1, e2, ⟨⟨hv, hp⟩, hz, hk⟩, stp⟩ := hr T hT X
  have hv := Outcome.returned.inj hv
  subst hv
  rw [h0] at hz hk
  obtain ⟨t2, a1, b1⟩ := kk T'.heap (locs ++ L) (by rw [e1]; exact hp) ⟨Nat.le_trans hS.1 (by rw [e1]; exact hz), fun q h1 h2 => by rw [e1, hk q (Nat.lt_of_lt_of_le h1 hS.1) h2]; exact hS.2.1 q h1 h2, fun q hq => by
      rcases List.mem_append.mp hq with h | h
      · exact hS.2.2 q h
      · exact hL q h⟩ T' rfl X'
  exact ⟨t2, stp t2 a1, b1⟩
section ONE
variable {y' : mI} {d' index : Nat} {vs : List mV} {β : Type} {en' : β → Option mV} {o' : Option (β × mM)} {k : β → mM → Option (α × mM)} {st0 : List mV}
theorem m_callV {c : Nat} {a : Option Nat} {T : u_T} {N : Nat} (hd : decode y.2.1 pc = .ok (.invokevirtual index, 3)) (hs : mSnd E y' d' (.inr a :: vs) M en' o') (hcd : mCd y' vs.length) (hl : Cond.methodLink y.1.cls index y'.1 ∈ mtb) (hi : Cond.instanceMethod y'.1 ∈ mtb) (hsel : Cond.selects y'.1.cls y'.1 y'.1 ∈ mtb) (hc : vwCl[c]? = some (y'.1.cls, T, N)) (hdd : d' < d) (hst : st0 = vs.reverse ++ .inr a :: st) (hlen : st.length ≤ 8) (kk : ∀ b M', mVr E y d (pc + 3) ls ((en' b).toList ++ st) M' en (k b M')) : mVr E y d pc ls st0 M en (x_cv M c a o' k) := by
  cases a with
  | none => exact m_none
  | some r =>
    unfold x_cv
    dsimp only
    split
    · rename_i hk
      cases o' with
      | none => exact m_none
      | some q =>
        obtain ⟨b, M2⟩ := q
        intro z Mf ho
        obtain ⟨g1, g2, hM⟩ := hs b M2 rfl
        obtain ⟨h1, h2, kk⟩ := kk b M2 z Mf ho
        refine ⟨Nat.le_trans g1 h1, Nat.le_trans g2 h2, fun p e s m args below meth cd H locs la n0 s0 R Q C hS hP hL hn hs2 hz9 => ?_⟩
        have hts := C.2.2.2.2.2.1
        have hG := C.2.2.2.2.2.2.2.2.1
        have he := mws_get hP (r := r) (by omega)
        rw [mcell_o hk] at he
        subst hst
        refine m_after (va_runV (As := vs.map (mval E)) (rest := st.map (mval E)) (b := mad E r) (C := y'.1.cls) (n := vs.length) ⟨C.1, C.2.1, C.2.2.2.1, C.2.2.2.2.1, hts⟩ hM ⟨callB_of vs.length hts (mGood hcd.1) rfl rfl rfl (hts _ hcd.2.1) (hts _ hl) hcd.2.2.2 ⟨Nat.le_trans (show d' + 1 ≤ d by omega) hz9.1, Nat.le_trans (show 8 + (y'.2.2.1 + 11) + 40 * d' ≤ 40 * d by have := hcd.2.2.1; omega) hz9.2.1⟩, hts _ hi, hts _ hsel⟩ ⟨mBlind E M _, va_recv hG.1 hP.1 hc he, fun U hU hW => ⟨rfl, mG_call hG hS hU hW, by rw [hU]; exact hP⟩⟩ rfl (by simp) hL.1 (by simp [mval]) (lv_room (by rw [mcats]; exact hlen)) hd ⟨Nat.le_trans (show mN M - n0 + (mN M2 - mN M) ≤ mN Mf - n0 by omega) hz9.2.2.1, Nat.le_trans (show mSl M - s0 + (mSl M2 - mSl M) ≤ mSl Mf - s0 by omega) hz9.2.2.2.1⟩) hS (fun H1 locs1 hP1 hS1 => ?_)
        have w := kk p e s m args below meth cd H1 locs1 la n0 s0 R Q C hS1 hP1 hL (Nat.le_trans hn g1) (Nat.le_trans hs2 g2) hz9
        rw [show mN M2 - n0 = mN M - n0 + (mN M2 - mN M) by omega, show mSl M2 - s0 = mSl M - s0 + (mSl M2 - mSl M) by omega, List.map_append] at w
        cases hv : en' b with
        | none => rw [hv] at w; exact w
        | some v => rw [hv] at w; exact w
    · exact m_none
theorem m_callS (hd : decode y.2.1 pc = .ok (.invokestatic index, 3)) (hs : mSnd E y' d' vs M en' o') (hcd : mCd y' vs.length) (hl : Cond.methodLink y.1.cls index y'.1 ∈ mtb) (hi : Cond.static y'.1 ∈ mtb) (hdd : d' < d) (hst : st0 = vs.reverse ++ st) (hlen : st.length ≤ 8) (kk : ∀ b M', mVr E y d (pc + 3) ls ((en' b).toList ++ st) M' en (k b M')) : mVr E y d pc ls st0 M en (x_cl o' k) := by
  cases o' with
  | none => exact m_none
  | some q =>
    obtain ⟨b, M2⟩ := q
    intro z Mf ho
    obtain ⟨g1, g2, hM⟩ := hs b M2 rfl
    obtain ⟨h1, h2, kk⟩ := kk b M2 z Mf ho
    refine ⟨Nat.le_trans g1 h1, Nat.le_trans g2 h2, fun p e s m args below meth cd H locs la n0 s0 R Q C hS hP hL hn hs2 hz9 => ?_⟩
    have hts := C.2.2.2.2.2.1
    have hG := C.2.2.2.2.2.2.2.2.1
    subst hst
    refine m_after (va_runS (As := vs.map (mval E)) (rest := st.map (mval E)) (n := vs.length) ⟨C.1, C.2.1, C.2.2.2.1, C.2.2.2.2.1, hts⟩ hM ⟨callB_of vs.length hts (mGood hcd.1) rfl rfl rfl (hts _ hcd.2.1) (hts _ hl) hcd.2.2.2 ⟨Nat.le_trans (show d' + 1 ≤ d by omega) hz9.1, Nat.le_trans (show 8 + (y'.2.2.1 + 11) + 40 * d' ≤ 40 * d by have := hcd.2.2.1; omega) hz9.2.1⟩, hts _ hi⟩ ⟨mBlind E M _, fun U hU hW => ⟨rfl, mG_call hG hS hU hW, by rw [hU]; exact hP⟩⟩ rfl (by simp) hL.1 (by simp) (lv_room (by rw [mcats]; exact hlen)) hd ⟨Nat.le_trans (show mN M - n0 + (mN M2 - mN M) ≤ mN Mf - n0 by omega) hz9.2.2.1, Nat.le_trans (show mSl M - s0 + (mSl M2 - mSl M) ≤ mSl Mf - s0 by omega) hz9.2.2.2.1⟩) hS (fun H1 locs1 hP1 hS1 => ?_)
    have w := kk p e s m args below meth cd H1 locs1 la n0 s0 R Q C hS1 hP1 hL (Nat.le_trans hn g1) (Nat.le_trans hs2 g2) hz9
    rw [show mN M2 - n0 = mN M - n0 + (mN M2 - mN M) by omega, show mSl M2 - s0 = mSl M - s0 + (mSl M2 - mSl M) by omega, List.map_append] at w
    cases hv : en' b with
    | none => rw [hv] at w; exact w
    | some v => rw [hv] at w; exact w
theorem m_callSN {host : String} (hd : decode y.2.1 pc = .ok (.invokestatic index, 3)) (hs : mSnd E y' d' vs M en' o') (hcd : mCd y' vs.length) (hl : Cond.methodLinkNest y.1.cls index y'.1 host ∈ mnw) (hi : Cond.static y'.1 ∈ mtb) (hdd : d' < d) (hst : st0 = vs.reverse ++ st) (hlen : st.length ≤ 8) (kk : ∀ b M', mVr E y d (pc + 3) ls ((en' b).toList ++ st) M' en (k b M')) : mVr E y d pc ls st0 M en (x_cl o' k) := by
  cases o' with
  | none => exact m_none
  | some q =>
    obtain ⟨b, M2⟩ := q
    intro z Mf ho
    obtain ⟨g1, g2, hM⟩ := hs b M2 rfl
    obtain ⟨h1, h2, kk⟩ := kk b M2 z Mf ho
    refine ⟨Nat.le_trans g1 h1, Nat.le_trans g2 h2, fun p e s m args below meth cd H locs la n0 s0 R Q C hS hP hL hn hs2 hz9 => ?_⟩
    have hts := C.2.2.2.2.2.1
    have hG := C.2.2.2.2.2.2.2.2.1
    subst hst
    refine m_after (va_runSN (As := vs.map (mval E)) (rest := st.map (mval E)) (n := vs.length) ⟨C.1, C.2.1, C.2.2.2.1, C.2.2.2.2.1, hts⟩ hM ⟨va_cnB vs.length hts (mGood hcd.1) rfl rfl rfl (hG.2.2.2 _ hl) (hts _ hcd.2.1) hcd.2.2.2 ⟨Nat.le_trans (show d' + 1 ≤ d by omega) hz9.1, Nat.le_trans (show 8 + (y'.2.2.1 + 11) + 40 * d' ≤ 40 * d by have := hcd.2.2.1; omega) hz9.2.1⟩, hts _ hi, trivial⟩ ⟨mBlind E M _, fun U hU hW => ⟨rfl, mG_call hG hS hU hW, by rw [hU]; exact hP⟩⟩ rfl (by simp) hL.1 (by simp) (lv_room (by rw [mcats]; exact hlen)) hd ⟨Nat.le_trans (show mN M - n0 + (mN M2 - mN M) ≤ mN Mf - n0 by omega) hz9.2.2.1, Nat.le_trans (show mSl M - s0 + (mSl M2 - mSl M) ≤ mSl Mf - s0 by omega) hz9.2.2.2.1⟩) hS (fun H1 locs1 hP1 hS1 => ?_)
    have w := kk p e s m args below meth cd H1 locs1 la n0 s0 R Q C hS1 hP1 hL (Nat.le_trans hn g1) (Nat.le_trans hs2 g2) hz9
    rw [show mN M2 - n0 = mN M - n0 + (mN M2 - mN M) by omega, show mSl M2 - s0 = mSl M - s0 + (mSl M2 - mSl M) by omega, List.map_append] at w
    cases hv : en' b with
    | none => rw [hv] at w; exact w
    | some v => rw [hv] at w; exact w
theorem m_callI {a : Option Nat} (hd : decode y.2.1 pc = .ok (.invokespecial index, 3)) (hs : mSnd E y' d' (.inr a :: vs) M en' o') (hcd : mCd y' vs.length) (hnm : y'.1.name = "<init>") (hrt : y'.2.2.2 = none) (hl : Cond.methodLink y.1.cls index y'.1 ∈ mtb) (hi : Cond.instanceMethod y'.1 ∈ mtb) (hdd : d' < d) (hst : st0 = vs.reverse ++ .inr a :: st) (hlen : st.length ≤ 8) (kk : ∀ b M', mVr E y d (pc + 3) ls ((en' b).toList ++ st) M' en (k b M')) : mVr E y d pc ls st0 M en (x_ci a o' k) := by
  cases a with
  | none => exact m_none
  | some r =>
    unfold x_ci
    dsimp only
    cases o' with
    | none => exact m_none
    | some q =>
      obtain ⟨b, M2⟩ := q
      intro z Mf ho
      obtain ⟨g1, g2, hM⟩ := hs b M2 rfl
      obtain ⟨h1, h2, kk⟩ := kk b M2 z Mf ho
      refine ⟨Nat.le_trans g1 h1, Nat.le_trans g2 h2, fun p e s m args below meth cd H locs la n0 s0 R Q C hS hP hL hn hs2 hz9 => ?_⟩
      have hts := C.2.2.2.2.2.1
      have hG := C.2.2.2.2.2.2.2.2.1
      subst hst
      have hcB : CallB R s args y.1.cls index y'.1 y'.2.1 y'.2.2.1 none (mWs y') (mRm d' (mN M2 - mN M) (mSl M2 - mSl M)) (mN M2 - mN M) (mSl M2 - mSl M) vs.length := by
        rw [← hrt]
        exact callB_of vs.length hts (mGood hcd.1) rfl rfl rfl (hts _ hcd.2.1) (hts _ hl) hcd.2.2.2 ⟨Nat.le_trans (show d' + 1 ≤ d by omega) hz9.1, Nat.le_trans (show 8 + (y'.2.2.1 + 11) + 40 * d' ≤ 40 * d by have := hcd.2.2.1; omega) hz9.2.1⟩
      refine m_after (va_runI (As := vs.map (mval E)) (rest := st.map (mval E)) (b := mad E r) (n := vs.length) ⟨C.1, C.2.1, C.2.2.2.1, C.2.2.2.2.1, hts⟩ hM ⟨hcB, hnm, hts _ hi⟩ ⟨mBlind E M _, fun U hU hW => ⟨rfl, mG_call hG hS hU hW, by rw [hU]; exact hP⟩⟩ rfl (by simp) hL.1 (by simp [mval]) (lv_room (by rw [mcats]; exact hlen)) hd ⟨Nat.le_trans (show mN M - n0 + (mN M2 - mN M) ≤ mN Mf - n0 by omega) hz9.2.2.1, Nat.le_trans (show mSl M - s0 + (mSl M2 - mSl M) ≤ mSl Mf - s0 by omega) hz9.2.2.2.1⟩) hS (fun H1 locs1 hP1 hS1 => ?_)
      have w := kk p e s m args below meth cd H1 locs1 la n0 s0 R Q C hS1 hP1 hL (Nat.le_trans hn g1) (Nat.le_trans hs2 g2) hz9
      rw [show mN M2 - n0 = mN M - n0 + (mN M2 - mN M) by omega, show mSl M2 - s0 = mSl M - s0 + (mSl M2 - mSl M) by omega, List.map_append] at w
      cases hv : en' b with
      | none => rw [hv] at w; exact w
      | some v => rw [hv] at w; exact w
theorem m_callIN {a : Option Nat} {host : String} (hd : decode y.2.1 pc = .ok (.invokespecial index, 3)) (hs : mSnd E y' d' (.inr a :: vs) M en' o') (hcd : mCd y' vs.length) (hnm : y'.1.name = "<init>") (hrt : y'.2.2.2 = none) (hl : Cond.methodLinkNest y.1.cls index y'.1 host ∈ mnw) (hi : Cond.instanceMethod y'.1 ∈ mtb) (hdd : d' < d) (hst : st0 = vs.reverse ++ .inr a :: st) (hlen : st.length ≤ 8) (kk : ∀ b M', mVr E y d (pc + 3) ls ((en' b).toList ++ st) M' en (k b M')) : mVr E y d pc ls st0 M en (x_ci a o' k) := by
  cases a with
  | none => exact m_none
  | some r =>
    unfold x_ci
    dsimp only
    cases o' with
    | none => exact m_none
    | some q =>
      obtain ⟨b, M2⟩ := q
      intro z Mf ho
      obtain ⟨g1, g2, hM⟩ := hs b M2 rfl
      obtain ⟨h1, h2, kk⟩ := kk b M2 z Mf ho
      refine ⟨Nat.le_trans g1 h1, Nat.le_trans g2 h2, fun p e s m args below meth cd H locs la n0 s0 R Q C hS hP hL hn hs2 hz9 => ?_⟩
      have hts := C.2.2.2.2.2.1
      have hG := C.2.2.2.2.2.2.2.2.1
      subst hst
      have hcB : va_CN R s args y.1.cls index y'.1 host y'.2.1 y'.2.2.1 none (mWs y') (mRm d' (mN M2 - mN M) (mSl M2 - mSl M)) (mN M2 - mN M) (mSl M2 - mSl M) vs.length := by
        rw [← hrt]
        exact va_cnB vs.length hts (mGood hcd.1) rfl rfl rfl (hG.2.2.2 _ hl) (hts _ hcd.2.1) hcd.2.2.2 ⟨Nat.le_trans (show d' + 1 ≤ d by omega) hz9.1, Nat.le_trans (show 8 + (y'.2.2.1 + 11) + 40 * d' ≤ 40 * d by have := hcd.2.2.1; omega) hz9.2.1⟩
      refine m_after (va_runIN (As := vs.map (mval E)) (rest := st.map (mval E)) (b := mad E r) (n := vs.length) ⟨C.1, C.2.1, C.2.2.2.1, C.2.2.2.2.1, hts⟩ hM ⟨hcB, hnm, hts _ hi⟩ ⟨mBlind E M _, fun U hU hW => ⟨rfl, mG_call hG hS hU hW, by rw [hU]; exact hP⟩⟩ rfl (by simp) hL.1 (by simp [mval]) (lv_room (by rw [mcats]; exact hlen)) hd ⟨Nat.le_trans (show mN M - n0 + (mN M2 - mN M) ≤ mN Mf - n0 by omega) hz9.2.2.1, Nat.le_trans (show mSl M - s0 + (mSl M2 - mSl M) ≤ mSl Mf - s0 by omega) hz9.2.2.2.1⟩) hS (fun H1 locs1 hP1 hS1 => ?_)
      have w := kk p e s m args below meth cd H1 locs1 la n0 s0 R Q C hS1 hP1 hL (Nat.le_trans hn g1) (Nat.le_trans hs2 g2) hz9
      rw [show mN M2 - n0 = mN M - n0 + (mN M2 - mN M) by omega, show mSl M2 - s0 = mSl M - s0 + (mSl M2 - mSl M) by omega, List.map_append] at w
      cases hv : en' b with
      | none => rw [hv] at w; exact w
      | some v => rw [hv] at w; exact w
end ONE
theorem lg_one : ∀ (vs : List mV), (lg_sl (vs.map (mval E))).length = vs.length
  | [] => rfl
  | v :: vs => by
    unfold lg_sl
    rw [List.map_cons, List.flatMap_cons, List.length_append, if_neg (by rw [mval_cat]; decide)]
    have := lg_one vs
    unfold lg_sl at this
    rw [this]
    simp
    omega
theorem lv_one : ∀ (vs : List mV) (i k : Nat) (v : mV), vs[k]? = some v → (i + k, mval E v) ∈ lv_args i (vs.map (mval E))
  | [], _, k, v, h => by simp at h
  | a :: vs, i, 0, v, h => by
    cases h
    exact List.mem_cons_self
  | a :: vs, i, k + 1, v, h => by
    rw [List.getElem?_cons_succ] at h
    rw [List.map_cons]
    unfold lv_args
    rw [if_neg (by rw [mval_cat]; decide)]
    have := lv_one vs (i + 1) k v h
    rw [show i + 1 + k = i + (k + 1) by omega] at this
    exact List.mem_cons_of_mem _ this
theorem m_entry {vs : List mV} {o : Option (α × mM)} (hy : plainName y.1.cls = true) (hl : vs.length ≤ y.2.2.1) (h : mVr E y d 0 (vs.map some) [] M en o)
    (hend : ∀ {p : Program} {e : Env} {s : State} {m : MethodId} {args : Array Value} {below : List Frame} {meth : Method} {c : Code} {H' : Heap} {locs' : List Loc} {la' : Array Slot} {R : Room} {cells slots pc' : Nat} {a : α} {Mf : mM}, p.tables.exec = Jvm.exec → c.code = y.2.1 → meth.sig.returnType = y.2.2.2 → meth.locks = false → va_S (mA E) s.heap H' locs' → mP E Mf H' → decode y.2.1 pc' = .ok (mri y.2.2.2, 1) → (y.2.2.2 = some .boolean → en a = some (.inl 0) ∨ en a = some (.inl 1)) → W p E.1 e R s m args below meth c H' locs' cells slots (MQ below (mQ E (en a) Mf) args s cells slots (mA E)) (F0 m pc' la' ((en a).toList.map (mval E)))) : mSnd E y d vs M en o := by
  intro a M' ho
  obtain ⟨h1, h2, hw⟩ := h a M' ho
  refine ⟨h1, h2, Met.ofW (cc := y.2.1) (maxL := y.2.2.1) (ret := y.2.2.2) hy rfl ?_⟩
  intro p e s m args below meth c s₁ B hml hv
  obtain ⟨rfl, hG, hP⟩ := hv
  have hts := atoms_spec (ws := mWs y) B.pre
  have hown : s.vm.findClass y.1.cls = some m.cls := findClass_of_methodNamed B.named
  have hen := lv_entry (vs.map (mval E)) (n := y.2.2.1) (by rw [lg_one]; exact hl)
  rw [lg_entry_eq]
  generalize (lg_sl (vs.map (mval E)) ++ List.replicate (y.2.2.1 - (lg_sl (vs.map (mval E))).length) Slot.unset).toArray = la at hen ⊢
  have w := hw p e s m (vs.map (mval E)).toArray below meth c s.heap [] la (mN M) (mSl M) (mRm d (mN M' - mN M) (mSl M' - mSl M)) (MQ below (mQ E (en a) M') (vs.map (mval E)).toArray s (mN M' - mN M) (mSl M' - mSl M) (mA E)) ⟨B.exec, B.bytes, B.returns, hml, hown, fun w hw => hts w (List.mem_cons_of_mem _ hw), B.notSynchronized, (name_of_methodNamed B.named B.method).1, hG, by rw [hP.2.1]; omega⟩ va_S.rf hP ⟨hen.1, hen.2.1, fun k v hk => ?_⟩ (Nat.le_refl _) (Nat.le_refl _) ⟨Nat.le_refl _, Nat.le_refl _, Nat.le_refl _, Nat.le_refl _, fun pc' H' locs' la' q1 q2 q3 q4 => hend B.exec B.bytes B.returns B.notSynchronized q1 q2 q3 q4⟩
  · rw [Nat.sub_self, Nat.sub_self] at w
    exact w
  · rw [List.getElem?_map] at hk
    cases hq : vs[k]? with
    | none => rw [hq] at hk; cases hk
    | some u =>
      rw [hq] at hk
      cases hk
      have := lv_one (E := E) vs 0 k v hq
      rw [Nat.zero_add] at this
      exact hen.2.2 _ this
theorem m_entryU {vs : List mV} {o : Option (Unit × mM)} (hy : plainName y.1.cls = true) (hl : vs.length ≤ y.2.2.1) (hr : y.2.2.2 = none) (h : mVr E y d 0 (vs.map some) [] M enU o) : mSnd E y d vs M enU o :=
  m_entry hy hl h (fun g1 g2 g3 hlocks hS hP hd _ => by
    rw [hr] at hd
    exact W.vret g1 g2 (g3.trans hr) (fun t ht hW => ⟨⟨rfl, by rw [ht]; exact hP⟩, hS.F ht⟩) hS.2.2 hd)
theorem m_entryI {vs : List mV} {o : Option (Int32 × mM)} (hy : plainName y.1.cls = true) (hl : vs.length ≤ y.2.2.1) (hr : y.2.2.2 = some .int) (h : mVr E y d 0 (vs.map some) [] M enI o) : mSnd E y d vs M enI o :=
  m_entry hy hl h (fun g1 g2 g3 hlocks hS hP hd _ => by
    rw [hr] at hd
    exact W.iret g1 g2 (g3.trans hr) (fun t ht hW => ⟨⟨rfl, by rw [ht]; exact hP⟩, hS.F ht⟩) hS.2.2 hd)
theorem m_entryZ {vs : List mV} {o : Option (Int32 × mM)} (hy : plainName y.1.cls = true) (hl : vs.length ≤ y.2.2.1) (hr : y.2.2.2 = some .boolean) (h : mVr E y d 0 (vs.map some) [] M enI o) : mSnd E y d vs M enI o :=
  m_entry hy hl h (fun {p e s m args below meth c H' locs' la' R cells slots pc' a Mf} g1 g2 g3 hlocks hS hP hd hb => by
    rw [hr] at hd
    have hn : narrow .boolean (.int a) = .int a := by
      rcases hb hr with q | q
      · have q : a = 0 := Sum.inl.inj (Option.some.inj q)
        rw [q]; rfl
      · have q : a = 1 := Sum.inl.inj (Option.some.inj q)
        rw [q]; rfl
    exact W.zret g1 g2 (g3.trans hr) hn (fun t ht hW => ⟨⟨rfl, by rw [ht]; exact hP⟩, hS.F ht⟩) hS.2.2 hd)
theorem m_entryR {vs : List mV} {S : String} {o : Option (Option Nat × mM)} (hy : plainName y.1.cls = true) (hl : vs.length ≤ y.2.2.1) (hr : y.2.2.2 = some (.object S)) (h : mVr E y d 0 (vs.map some) [] M enR o) : mSnd E y d vs M enR o :=
  m_entry hy hl h (fun {p e s m args below meth c H' locs' la' R cells slots pc' a Mf} g1 g2 g3 hlocks hS hP hd _ => by
    rw [hr] at hd
    exact W.aret g1 g2 (g3.trans hr) (Or.inl ⟨_, rfl⟩) (by rcases a with _ | r; exact Or.inl rfl; exact Or.inr ⟨_, rfl⟩) (fun t ht hW => ⟨⟨rfl, by rw [ht]; exact hP⟩, hS.F ht⟩) hS.2.2 hd)
end MCL
end
section
section MCP
variable {E : mE} {y : mI} {d pc : Nat} {ls : List (Option mV)} {st : List mV} {M : mM} {α : Type} {en : α → Option mV}
theorem m_nonneg (z : Int32) (hz : ¬ z < 0) : z.toInt = (z.toNatClampNeg : Int) := by
  have hz0 : (0 : Int) ≤ z.toInt := by
    have := Int32.not_lt.mp hz
    simpa using Int32.le_iff_toInt_le.mp this
  show z.toInt = ((z.toInt.toNat : Nat) : Int)
  omega
theorem m_copy {index : Nat} {a0 a1 : Option Nat} {sp dp n : Int32} {k : mM → Option (α × mM)} (hd : decode y.2.1 pc = .ok (.invokestatic index, 3)) (hl : Cond.methodLink y.1.cls index arraycopyName ∈ mtb) (hnat : Cond.native arraycopyName ∈ mtb) (hstat : Cond.static arraycopyName ∈ mtb) (hini : Cond.initialized "java/lang/System" ∈ mtb) (hdd : st.length + (nativeFrameWords "java/lang/System" "arraycopy" 5 + 11) ≤ 40 * d) (kk : ∀ M', mVr E y d (pc + 3) ls st M' en (k M')) : mVr E y d pc ls (.inl n :: .inl dp :: .inr a1 :: .inl sp :: .inr a0 :: st) M en (x_cp M a0 sp a1 dp n k) := by
  cases a0 with
  | none => exact m_none
  | some r0 =>
    cases a1 with
    | none => exact m_none
    | some r1 =>
      unfold x_cp
      dsimp only
      split
      · rename_i hk
        obtain ⟨k0, k1, g1, g2, g3, g4, g5⟩ := hk
        intro b Mf ho
        obtain ⟨h1, h2, kk⟩ := kk _ b Mf ho
        refine ⟨h1, h2, fun p e s m args below meth cd H locs la n0 s0 R Q C hS hP hL hn hs hz9 => ?_⟩
        have hts := C.2.2.2.2.2.1
        have hK := C.2.2.2.2.2.2.2.2.1.1
        have he0 := mws_get hP (r := r0) (by omega)
        rw [mcell_i (t := 0) k0 (by omega)] at he0
        have he1 := mws_get hP (r := r1) (by omega)
        rw [mcell_i (t := 0) k1 (by omega)] at he1
        have hr16 := (hP.2.2 r1 (by omega)).1
        have hD := mws_D E M
        have hc0 : H[mad E r0]? = some (vp_cell (eA E 0) (mLn M r0, .inl (M.1 r0))) := hP.1 _ _ he0
        have hc1 : H[mad E r1]? = some (vp_cell (eA E 0) (mLn M r1, .inl (M.1 r1))) := hP.1 _ _ he1
        intro T hT X
        obtain ⟨-, q0, hq0, cm0, hkk0⟩ := (hK.2 0 _ (mtys_at rfl)).1 (mLn M r0) (fun j => .int (M.1 r0 j))
        obtain ⟨-, q1, hq1, cm1, hkk1⟩ := (hK.2 0 _ (mtys_at rfl)).1 (mLn M r1) (fun j => .int (M.1 r1 j))
        obtain ⟨vm', X', step⟩ := X.arraycopy C.1 C.2.2.2.2.1 (hts _ hl) (hts _ hnat) (hts _ hstat) (hts _ hini) (src := mad E r0) (dst := mad E r1) (cs := vp_cell (eA E 0) (mLn M r0, .inl (M.1 r0))) (cd := vp_cell (eA E 0) (mLn M r1, .inl (M.1 r1))) (srcPos := sp) (destPos := dp) (n := n) (by rw [hT]; exact hc0) (by rw [hT]; exact hc1)
          (fun _ h => by cases h) (fun _ h => by cases h) (fun h => by cases h) (fun h => by cases h) hq0 hq1 hkk0 hkk1 (by simp [refKind]) g1 g2 g3
          (by rw [m_nonneg sp g1, m_nonneg n g3]; show ¬ _ > ((arrV (eA E 0) (mLn M r0) (fun j => .int (M.1 r0 j))).slots.size : Int); rw [arrV_size]; omega)
          (by rw [m_nonneg dp g2, m_nonneg n g3]; show ¬ _ > ((arrV (eA E 0) (mLn M r1) (fun j => .int (M.1 r1 j))).slots.size : Int); rw [arrV_size]; omega)
          (fun vm₁ _ i hi => by
            have e : (vp_cell (eA E 0) (mLn M r0, .inl (M.1 r0))).slots.getD (sp.toNatClampNeg + i) .null = .int (M.1 r0 (sp.toNatClampNeg + i)) := by
              show (arrV (eA E 0) (mLn M r0) (fun j => .int (M.1 r0 j))).slots.getD _ _ = _
              rw [Array.getD_eq_getD_getElem?, arrV_read _ _ (by omega)]
              rfl
            refine ⟨?_, ?_⟩
            · rw [e]
              rfl
            · rw [e]
              exact trivial)
          (g := F0 m pc la (.int n :: .int dp :: .ref (mad E r1) :: .int sp :: .ref (mad E r0) :: st.map (mval E))) rfl (by rw [C.2.2.2.1]; exact hL.1) (rest := st.map (mval E)) rfl (by rw [C.2.1]; exact hd) (Nat.le_trans (show 1 ≤ d by omega) hz9.1) (by rw [mcats]; exact Nat.le_trans (show 2 * 0 + st.length + (nativeFrameWords "java/lang/System" "arraycopy" 5 + 11) ≤ 40 * d by omega) hz9.2.1)
        have e1 : copied (vp_cell (eA E 0) (mLn M r0, .inl (M.1 r0))) (vp_cell (eA E 0) (mLn M r1, .inl (M.1 r1))) sp dp n = vp_cell (eA E 0) (mLn M r1, .inl (va_cpy (M.1 r0) (M.1 r1) sp.toNatClampNeg dp.toNatClampNeg n.toNatClampNeg)) := va_copied (fun z => .int z) (eA E 0) (eA E 0) (M.1 r0) (M.1 r1) g4
        rw [e1] at X' step
        have hl1 : mad E r1 < H.size := (Array.getElem?_eq_some_iff.mp hc1).1
        have hheap : ((T.setVm vm').setCell (mad E r1) (vp_cell (eA E 0) (mLn M r1, .inl (va_cpy (M.1 r0) (M.1 r1) sp.toNatClampNeg dp.toNatClampNeg n.toNatClampNeg)))).heap = H.setIfInBounds (mad E r1) (vp_cell (eA E 0) (mLn M r1, .inl (va_cpy (M.1 r0) (M.1 r1) sp.toNatClampNeg dp.toNatClampNeg n.toNatClampNeg))) := by rw [← hT]; rfl
        have oq : ∀ q : Nat, q ≠ mad E r1 → (H.setIfInBounds (mad E r1) (vp_cell (eA E 0) (mLn M r1, .inl (va_cpy (M.1 r0) (M.1 r1) sp.toNatClampNeg dp.toNatClampNeg n.toNatClampNeg))))[q]? = H[q]? := fun q hq => by simp [Array.getElem?_setIfInBounds, Ne.symm hq]
        have hx : mcell E (mcp M r0 r1 sp.toNatClampNeg dp.toNatClampNeg n.toNatClampNeg) r1 = .inl (eA E 0, mLn M r1, .inl (va_cpy (M.1 r0) (M.1 r1) sp.toNatClampNeg dp.toNatClampNeg n.toNatClampNeg)) := by
          rw [mcell_i (t := 0) (show mKd (mcp M r0 r1 sp.toNatClampNeg dp.toNatClampNeg n.toNatClampNeg) r1 = 0 + 1 from k1) (by omega)]
          simp [mcp, mrow]
        have hset := hP.1.set hD he1 (e := .inl (eA E 0, mLn M r1, .inl (va_cpy (M.1 r0) (M.1 r1) sp.toNatClampNeg dp.toNatClampNeg n.toNatClampNeg))) (show (H.setIfInBounds (mad E r1) _)[mad E r1]? = some _ by simp [Array.getElem?_setIfInBounds, hl1]) oq
        rw [← hx, mws_set hr16 (show mN (mcp M r0 r1 sp.toNatClampNeg dp.toNatClampNeg n.toNatClampNeg) = mN M from rfl) rfl (fun q hq => mcell_congr (mrow_n _ _ hq) rfl rfl rfl)] at hset
        obtain ⟨t, a1, b1⟩ := kk p e s m args below meth cd _ _ la n0 s0 R Q C ⟨by simp; exact hS.1, fun q z1 z2 => by
            rw [oq q (fun e => z2 (by rw [e]; exact hD.2 _ _ he1))]
            exact hS.2.1 q z1 z2, fun q hq => by
            rcases List.mem_append.mp hq with h | h
            · exact hS.2.2 q h
            · obtain ⟨z, -, hz⟩ := List.mem_map.mp h
              rw [← hz]
              exact hD.2 _ _ he1⟩ ⟨hset, by simp; exact hP.2.1, hP.2.2⟩ hL hn hs hz9 _ hheap X'
        exact ⟨t, step t a1, b1⟩
      · exact m_none
end MCP
end
