section
-- ===== PART A: goes FIRST, ahead of the names: the tables' words, and 'selects' of the private methods out of them =====
/-- a private method of a class that the tables say can be made, by its rows of tables_1 -/
def lw_okq (q : MethodName × Nat) : Prop := (q.1.cls ≠ "java/lang/invoke/MethodHandle" ∧ q.1.cls ≠ "java/lang/invoke/VarHandle") ∧ Cond.instantiable q.1.cls q.2 ∈ tables_1 ∧ Cond.privateMethod q.1 ∈ tables_1 ∧ Cond.instanceMethod q.1 ∈ tables_1
theorem lw_p0 : lw_okq (⟨"WorldDeltas", "hashClient", "(JLWorldDeltas$Client;)J"⟩, 2) := ⟨⟨by decide +kernel, by decide +kernel⟩, List.mem_of_getElem? (i := 22) (by decide +kernel), List.mem_of_getElem? (i := 294) (by decide +kernel), List.mem_of_getElem? (i := 295) (by decide +kernel)⟩
theorem lw_p1 : lw_okq (⟨"WorldDeltas", "hashClientEntity", "(JLWorldDeltas$Client;I)J"⟩, 2) := ⟨⟨by decide +kernel, by decide +kernel⟩, List.mem_of_getElem? (i := 22) (by decide +kernel), List.mem_of_getElem? (i := 325) (by decide +kernel), List.mem_of_getElem? (i := 326) (by decide +kernel)⟩
theorem lw_p2 : lw_okq (⟨"WorldDeltas", "hashPacket", "(JLWorldDeltas$Packet;)J"⟩, 2) := ⟨⟨by decide +kernel, by decide +kernel⟩, List.mem_of_getElem? (i := 22) (by decide +kernel), List.mem_of_getElem? (i := 368) (by decide +kernel), List.mem_of_getElem? (i := 369) (by decide +kernel)⟩
theorem lw_p3 : lw_okq (⟨"java/lang/Throwable", "fillInStackTrace", "(I)Ljava/lang/Throwable;"⟩, 6) := ⟨⟨by decide +kernel, by decide +kernel⟩, List.mem_of_getElem? (i := 431) (by decide +kernel), List.mem_of_getElem? (i := 429) (by decide +kernel), List.mem_of_getElem? (i := 430) (by decide +kernel)⟩
theorem lw_p4 : lw_okq (⟨"WorldDeltas$UndoStack", "dropOldest", "()V"⟩, 2) := ⟨⟨by decide +kernel, by decide +kernel⟩, List.mem_of_getElem? (i := 245) (by decide +kernel), List.mem_of_getElem? (i := 484) (by decide +kernel), List.mem_of_getElem? (i := 485) (by decide +kernel)⟩
theorem lw_p5 : lw_okq (⟨"WorldDeltas", "checkExists", "(I)V"⟩, 2) := ⟨⟨by decide +kernel, by decide +kernel⟩, List.mem_of_getElem? (i := 22) (by decide +kernel), List.mem_of_getElem? (i := 542) (by decide +kernel), List.mem_of_getElem? (i := 543) (by decide +kernel)⟩
theorem lw_p6 : lw_okq (⟨"WorldDeltas", "clientOf", "(I)LWorldDeltas$Client;"⟩, 2) := ⟨⟨by decide +kernel, by decide +kernel⟩, List.mem_of_getElem? (i := 22) (by decide +kernel), List.mem_of_getElem? (i := 604) (by decide +kernel), List.mem_of_getElem? (i := 605) (by decide +kernel)⟩
theorem lw_p7 : lw_okq (⟨"WorldDeltas$Entities", "moveOne", "(I)V"⟩, 3) := ⟨⟨by decide +kernel, by decide +kernel⟩, List.mem_of_getElem? (i := 36) (by decide +kernel), List.mem_of_getElem? (i := 669) (by decide +kernel), List.mem_of_getElem? (i := 670) (by decide +kernel)⟩
theorem lw_p8 : lw_okq (⟨"WorldDeltas$Client", "receivePacket", "(LWorldDeltas$Packet;)V"⟩, 16) := ⟨⟨by decide +kernel, by decide +kernel⟩, List.mem_of_getElem? (i := 55) (by decide +kernel), List.mem_of_getElem? (i := 683) (by decide +kernel), List.mem_of_getElem? (i := 684) (by decide +kernel)⟩
theorem lw_p9 : lw_okq (⟨"WorldDeltas$Client", "receiveEntry", "(LWorldDeltas$Packet;I)V"⟩, 16) := ⟨⟨by decide +kernel, by decide +kernel⟩, List.mem_of_getElem? (i := 55) (by decide +kernel), List.mem_of_getElem? (i := 688) (by decide +kernel), List.mem_of_getElem? (i := 689) (by decide +kernel)⟩
theorem lw_p10 : lw_okq (⟨"WorldDeltas$Records", "dropOldest", "(I)V"⟩, 3) := ⟨⟨by decide +kernel, by decide +kernel⟩, List.mem_of_getElem? (i := 61) (by decide +kernel), List.mem_of_getElem? (i := 703) (by decide +kernel), List.mem_of_getElem? (i := 704) (by decide +kernel)⟩
theorem lw_p11 : lw_okq (⟨"WorldDeltas$Client", "sendAck", "(II)V"⟩, 16) := ⟨⟨by decide +kernel, by decide +kernel⟩, List.mem_of_getElem? (i := 55) (by decide +kernel), List.mem_of_getElem? (i := 707) (by decide +kernel), List.mem_of_getElem? (i := 708) (by decide +kernel)⟩
theorem lw_p12 : lw_okq (⟨"WorldDeltas$Client", "receiveAck", "(I)V"⟩, 16) := ⟨⟨by decide +kernel, by decide +kernel⟩, List.mem_of_getElem? (i := 55) (by decide +kernel), List.mem_of_getElem? (i := 731) (by decide +kernel), List.mem_of_getElem? (i := 732) (by decide +kernel)⟩
theorem lw_p13 : lw_okq (⟨"WorldDeltas$Client", "orderByPriority", "()I"⟩, 16) := ⟨⟨by decide +kernel, by decide +kernel⟩, List.mem_of_getElem? (i := 55) (by decide +kernel), List.mem_of_getElem? (i := 764) (by decide +kernel), List.mem_of_getElem? (i := 765) (by decide +kernel)⟩
theorem lw_p14 : lw_okq (⟨"WorldDeltas$Client", "offerEntry", "(LWorldDeltas$Packet;LWorldDeltas$Entities;I)V"⟩, 16) := ⟨⟨by decide +kernel, by decide +kernel⟩, List.mem_of_getElem? (i := 55) (by decide +kernel), List.mem_of_getElem? (i := 768) (by decide +kernel), List.mem_of_getElem? (i := 769) (by decide +kernel)⟩
theorem lw_p15 : lw_okq (⟨"WorldDeltasModel", "clear", "(I)V"⟩, 8) := ⟨⟨by decide +kernel, by decide +kernel⟩, List.mem_of_getElem? (i := 846) (by decide +kernel), List.mem_of_getElem? (i := 852) (by decide +kernel), List.mem_of_getElem? (i := 853) (by decide +kernel)⟩
def lw_privs_1 : List (MethodName × Nat) := [(⟨"WorldDeltas", "hashClient", "(JLWorldDeltas$Client;)J"⟩, 2), (⟨"WorldDeltas", "hashClientEntity", "(JLWorldDeltas$Client;I)J"⟩, 2), (⟨"WorldDeltas", "hashPacket", "(JLWorldDeltas$Packet;)J"⟩, 2), (⟨"java/lang/Throwable", "fillInStackTrace", "(I)Ljava/lang/Throwable;"⟩, 6), (⟨"WorldDeltas$UndoStack", "dropOldest", "()V"⟩, 2), (⟨"WorldDeltas", "checkExists", "(I)V"⟩, 2), (⟨"WorldDeltas", "clientOf", "(I)LWorldDeltas$Client;"⟩, 2), (⟨"WorldDeltas$Entities", "moveOne", "(I)V"⟩, 3), (⟨"WorldDeltas$Client", "receivePacket", "(LWorldDeltas$Packet;)V"⟩, 16), (⟨"WorldDeltas$Client", "receiveEntry", "(LWorldDeltas$Packet;I)V"⟩, 16), (⟨"WorldDeltas$Records", "dropOldest", "(I)V"⟩, 3), (⟨"WorldDeltas$Client", "sendAck", "(II)V"⟩, 16), (⟨"WorldDeltas$Client", "receiveAck", "(I)V"⟩, 16), (⟨"WorldDeltas$Client", "orderByPriority", "()I"⟩, 16), (⟨"WorldDeltas$Client", "offerEntry", "(LWorldDeltas$Packet;LWorldDeltas$Entities;I)V"⟩, 16), (⟨"WorldDeltasModel", "clear", "(I)V"⟩, 8)]
theorem lw_r1 : ∀ q ∈ lw_privs_1, lw_okq q := List.forall_mem_cons.mpr ⟨lw_p0, List.forall_mem_cons.mpr ⟨lw_p1, List.forall_mem_cons.mpr ⟨lw_p2, List.forall_mem_cons.mpr ⟨lw_p3, List.forall_mem_cons.mpr ⟨lw_p4, List.forall_mem_cons.mpr ⟨lw_p5, List.forall_mem_cons.mpr ⟨lw_p6, List.forall_mem_cons.mpr ⟨lw_p7, List.forall_mem_cons.mpr ⟨lw_p8, List.forall_mem_cons.mpr ⟨lw_p9, List.forall_mem_cons.mpr ⟨lw_p10, List.forall_mem_cons.mpr ⟨lw_p11, List.forall_mem_cons.mpr ⟨lw_p12, List.forall_mem_cons.mpr ⟨lw_p13, List.forall_mem_cons.mpr ⟨lw_p14, List.forall_mem_cons.mpr ⟨lw_p15, fun _ h => absurd h List.not_mem_nil⟩⟩⟩⟩⟩⟩⟩⟩⟩⟩⟩⟩⟩⟩⟩⟩
theorem lw_p16 : lw_okq (⟨"WorldDeltasModel", "keep", "()V"⟩, 8) := ⟨⟨by decide +kernel, by decide +kernel⟩, List.mem_of_getElem? (i := 846) (by decide +kernel), List.mem_of_getElem? (i := 905) (by decide +kernel), List.mem_of_getElem? (i := 906) (by decide +kernel)⟩
theorem lw_p17 : lw_okq (⟨"WorldDeltasModel", "exists", "(I)Z"⟩, 8) := ⟨⟨by decide +kernel, by decide +kernel⟩, List.mem_of_getElem? (i := 846) (by decide +kernel), List.mem_of_getElem? (i := 912) (by decide +kernel), List.mem_of_getElem? (i := 913) (by decide +kernel)⟩
theorem lw_p18 : lw_okq (⟨"WorldDeltasModel", "stateOf", "(I)I"⟩, 8) := ⟨⟨by decide +kernel, by decide +kernel⟩, List.mem_of_getElem? (i := 846) (by decide +kernel), List.mem_of_getElem? (i := 916) (by decide +kernel), List.mem_of_getElem? (i := 917) (by decide +kernel)⟩
theorem lw_p19 : lw_okq (⟨"WorldDeltasModel", "entityValue", "(II)I"⟩, 8) := ⟨⟨by decide +kernel, by decide +kernel⟩, List.mem_of_getElem? (i := 846) (by decide +kernel), List.mem_of_getElem? (i := 942) (by decide +kernel), List.mem_of_getElem? (i := 943) (by decide +kernel)⟩
theorem lw_p20 : lw_okq (⟨"WorldDeltasModel", "isConnected", "(I)Z"⟩, 8) := ⟨⟨by decide +kernel, by decide +kernel⟩, List.mem_of_getElem? (i := 846) (by decide +kernel), List.mem_of_getElem? (i := 956) (by decide +kernel), List.mem_of_getElem? (i := 957) (by decide +kernel)⟩
theorem lw_p21 : lw_okq (⟨"WorldDeltasModel", "of", "(II)I"⟩, 8) := ⟨⟨by decide +kernel, by decide +kernel⟩, List.mem_of_getElem? (i := 846) (by decide +kernel), List.mem_of_getElem? (i := 960) (by decide +kernel), List.mem_of_getElem? (i := 961) (by decide +kernel)⟩
theorem lw_p22 : lw_okq (⟨"WorldDeltasModel", "aim", "(IIII)V"⟩, 8) := ⟨⟨by decide +kernel, by decide +kernel⟩, List.mem_of_getElem? (i := 846) (by decide +kernel), List.mem_of_getElem? (i := 964) (by decide +kernel), List.mem_of_getElem? (i := 965) (by decide +kernel)⟩
theorem lw_p23 : lw_okq (⟨"WorldDeltasModel", "isInArea", "(II)Z"⟩, 8) := ⟨⟨by decide +kernel, by decide +kernel⟩, List.mem_of_getElem? (i := 846) (by decide +kernel), List.mem_of_getElem? (i := 972) (by decide +kernel), List.mem_of_getElem? (i := 973) (by decide +kernel)⟩
theorem lw_p24 : lw_okq (⟨"WorldDeltasModel", "distance", "(II)I"⟩, 8) := ⟨⟨by decide +kernel, by decide +kernel⟩, List.mem_of_getElem? (i := 846) (by decide +kernel), List.mem_of_getElem? (i := 976) (by decide +kernel), List.mem_of_getElem? (i := 977) (by decide +kernel)⟩
theorem lw_p25 : lw_okq (⟨"WorldDeltasModel", "tickOne", "()V"⟩, 8) := ⟨⟨by decide +kernel, by decide +kernel⟩, List.mem_of_getElem? (i := 846) (by decide +kernel), List.mem_of_getElem? (i := 999) (by decide +kernel), List.mem_of_getElem? (i := 1000) (by decide +kernel)⟩
theorem lw_p26 : lw_okq (⟨"WorldDeltasModel", "moveOne", "(II)V"⟩, 8) := ⟨⟨by decide +kernel, by decide +kernel⟩, List.mem_of_getElem? (i := 846) (by decide +kernel), List.mem_of_getElem? (i := 1003) (by decide +kernel), List.mem_of_getElem? (i := 1004) (by decide +kernel)⟩
theorem lw_p27 : lw_okq (⟨"WorldDeltasModel", "arriveAll", "(I)V"⟩, 8) := ⟨⟨by decide +kernel, by decide +kernel⟩, List.mem_of_getElem? (i := 846) (by decide +kernel), List.mem_of_getElem? (i := 1007) (by decide +kernel), List.mem_of_getElem? (i := 1008) (by decide +kernel)⟩
theorem lw_p28 : lw_okq (⟨"WorldDeltasModel", "packetCell", "(II)I"⟩, 8) := ⟨⟨by decide +kernel, by decide +kernel⟩, List.mem_of_getElem? (i := 846) (by decide +kernel), List.mem_of_getElem? (i := 1011) (by decide +kernel), List.mem_of_getElem? (i := 1012) (by decide +kernel)⟩
theorem lw_p29 : lw_okq (⟨"WorldDeltasModel", "receive", "(II)V"⟩, 8) := ⟨⟨by decide +kernel, by decide +kernel⟩, List.mem_of_getElem? (i := 846) (by decide +kernel), List.mem_of_getElem? (i := 1015) (by decide +kernel), List.mem_of_getElem? (i := 1016) (by decide +kernel)⟩
theorem lw_p30 : lw_okq (⟨"WorldDeltasModel", "receiveEntry", "(III)V"⟩, 8) := ⟨⟨by decide +kernel, by decide +kernel⟩, List.mem_of_getElem? (i := 846) (by decide +kernel), List.mem_of_getElem? (i := 1019) (by decide +kernel), List.mem_of_getElem? (i := 1020) (by decide +kernel)⟩
theorem lw_p31 : lw_okq (⟨"WorldDeltasModel", "lastNumber", "(II)I"⟩, 8) := ⟨⟨by decide +kernel, by decide +kernel⟩, List.mem_of_getElem? (i := 846) (by decide +kernel), List.mem_of_getElem? (i := 1023) (by decide +kernel), List.mem_of_getElem? (i := 1024) (by decide +kernel)⟩
def lw_privs_2 : List (MethodName × Nat) := [(⟨"WorldDeltasModel", "keep", "()V"⟩, 8), (⟨"WorldDeltasModel", "exists", "(I)Z"⟩, 8), (⟨"WorldDeltasModel", "stateOf", "(I)I"⟩, 8), (⟨"WorldDeltasModel", "entityValue", "(II)I"⟩, 8), (⟨"WorldDeltasModel", "isConnected", "(I)Z"⟩, 8), (⟨"WorldDeltasModel", "of", "(II)I"⟩, 8), (⟨"WorldDeltasModel", "aim", "(IIII)V"⟩, 8), (⟨"WorldDeltasModel", "isInArea", "(II)Z"⟩, 8), (⟨"WorldDeltasModel", "distance", "(II)I"⟩, 8), (⟨"WorldDeltasModel", "tickOne", "()V"⟩, 8), (⟨"WorldDeltasModel", "moveOne", "(II)V"⟩, 8), (⟨"WorldDeltasModel", "arriveAll", "(I)V"⟩, 8), (⟨"WorldDeltasModel", "packetCell", "(II)I"⟩, 8), (⟨"WorldDeltasModel", "receive", "(II)V"⟩, 8), (⟨"WorldDeltasModel", "receiveEntry", "(III)V"⟩, 8), (⟨"WorldDeltasModel", "lastNumber", "(II)I"⟩, 8)]
theorem lw_r2 : ∀ q ∈ lw_privs_2, lw_okq q := List.forall_mem_cons.mpr ⟨lw_p16, List.forall_mem_cons.mpr ⟨lw_p17, List.forall_mem_cons.mpr ⟨lw_p18, List.forall_mem_cons.mpr ⟨lw_p19, List.forall_mem_cons.mpr ⟨lw_p20, List.forall_mem_cons.mpr ⟨lw_p21, List.forall_mem_cons.mpr ⟨lw_p22, List.forall_mem_cons.mpr ⟨lw_p23, List.forall_mem_cons.mpr ⟨lw_p24, List.forall_mem_cons.mpr ⟨lw_p25, List.forall_mem_cons.mpr ⟨lw_p26, List.forall_mem_cons.mpr ⟨lw_p27, List.forall_mem_cons.mpr ⟨lw_p28, List.forall_mem_cons.mpr ⟨lw_p29, List.forall_mem_cons.mpr ⟨lw_p30, List.forall_mem_cons.mpr ⟨lw_p31, fun _ h => absurd h List.not_mem_nil⟩⟩⟩⟩⟩⟩⟩⟩⟩⟩⟩⟩⟩⟩⟩⟩
theorem lw_p32 : lw_okq (⟨"WorldDeltasModel", "recordState", "(III)I"⟩, 8) := ⟨⟨by decide +kernel, by decide +kernel⟩, List.mem_of_getElem? (i := 846) (by decide +kernel), List.mem_of_getElem? (i := 1030) (by decide +kernel), List.mem_of_getElem? (i := 1031) (by decide +kernel)⟩
theorem lw_p33 : lw_okq (⟨"WorldDeltasModel", "add", "(III)V"⟩, 8) := ⟨⟨by decide +kernel, by decide +kernel⟩, List.mem_of_getElem? (i := 846) (by decide +kernel), List.mem_of_getElem? (i := 1034) (by decide +kernel), List.mem_of_getElem? (i := 1035) (by decide +kernel)⟩
theorem lw_p34 : lw_okq (⟨"WorldDeltasModel", "addRecord", "(IIII)V"⟩, 8) := ⟨⟨by decide +kernel, by decide +kernel⟩, List.mem_of_getElem? (i := 846) (by decide +kernel), List.mem_of_getElem? (i := 1041) (by decide +kernel), List.mem_of_getElem? (i := 1042) (by decide +kernel)⟩
theorem lw_p35 : lw_okq (⟨"WorldDeltasModel", "sweep", "(I)V"⟩, 8) := ⟨⟨by decide +kernel, by decide +kernel⟩, List.mem_of_getElem? (i := 846) (by decide +kernel), List.mem_of_getElem? (i := 1045) (by decide +kernel), List.mem_of_getElem? (i := 1046) (by decide +kernel)⟩
theorem lw_p36 : lw_okq (⟨"WorldDeltasModel", "acknowledge", "(II)V"⟩, 8) := ⟨⟨by decide +kernel, by decide +kernel⟩, List.mem_of_getElem? (i := 846) (by decide +kernel), List.mem_of_getElem? (i := 1049) (by decide +kernel), List.mem_of_getElem? (i := 1050) (by decide +kernel)⟩
theorem lw_p37 : lw_okq (⟨"WorldDeltasModel", "settle", "(III)V"⟩, 8) := ⟨⟨by decide +kernel, by decide +kernel⟩, List.mem_of_getElem? (i := 846) (by decide +kernel), List.mem_of_getElem? (i := 1053) (by decide +kernel), List.mem_of_getElem? (i := 1054) (by decide +kernel)⟩
theorem lw_p38 : lw_okq (⟨"WorldDeltasModel", "serve", "(I)V"⟩, 8) := ⟨⟨by decide +kernel, by decide +kernel⟩, List.mem_of_getElem? (i := 846) (by decide +kernel), List.mem_of_getElem? (i := 1057) (by decide +kernel), List.mem_of_getElem? (i := 1058) (by decide +kernel)⟩
theorem lw_p39 : lw_okq (⟨"WorldDeltasModel", "giveUp", "(I)V"⟩, 8) := ⟨⟨by decide +kernel, by decide +kernel⟩, List.mem_of_getElem? (i := 846) (by decide +kernel), List.mem_of_getElem? (i := 1061) (by decide +kernel), List.mem_of_getElem? (i := 1062) (by decide +kernel)⟩
theorem lw_p40 : lw_okq (⟨"WorldDeltasModel", "raise", "(II)V"⟩, 8) := ⟨⟨by decide +kernel, by decide +kernel⟩, List.mem_of_getElem? (i := 846) (by decide +kernel), List.mem_of_getElem? (i := 1065) (by decide +kernel), List.mem_of_getElem? (i := 1066) (by decide +kernel)⟩
theorem lw_p41 : lw_okq (⟨"WorldDeltasModel", "flying", "(I)I"⟩, 8) := ⟨⟨by decide +kernel, by decide +kernel⟩, List.mem_of_getElem? (i := 846) (by decide +kernel), List.mem_of_getElem? (i := 1072) (by decide +kernel), List.mem_of_getElem? (i := 1073) (by decide +kernel)⟩
theorem lw_p42 : lw_okq (⟨"WorldDeltasModel", "send", "(I)V"⟩, 8) := ⟨⟨by decide +kernel, by decide +kernel⟩, List.mem_of_getElem? (i := 846) (by decide +kernel), List.mem_of_getElem? (i := 1076) (by decide +kernel), List.mem_of_getElem? (i := 1077) (by decide +kernel)⟩
theorem lw_p43 : lw_okq (⟨"WorldDeltasModel", "nextByPriority", "(I)I"⟩, 8) := ⟨⟨by decide +kernel, by decide +kernel⟩, List.mem_of_getElem? (i := 846) (by decide +kernel), List.mem_of_getElem? (i := 1080) (by decide +kernel), List.mem_of_getElem? (i := 1081) (by decide +kernel)⟩
theorem lw_p44 : lw_okq (⟨"WorldDeltasModel", "priceOf", "(II)I"⟩, 8) := ⟨⟨by decide +kernel, by decide +kernel⟩, List.mem_of_getElem? (i := 846) (by decide +kernel), List.mem_of_getElem? (i := 1084) (by decide +kernel), List.mem_of_getElem? (i := 1085) (by decide +kernel)⟩
theorem lw_p45 : lw_okq (⟨"WorldDeltasModel", "putEntry", "(III)V"⟩, 8) := ⟨⟨by decide +kernel, by decide +kernel⟩, List.mem_of_getElem? (i := 846) (by decide +kernel), List.mem_of_getElem? (i := 1094) (by decide +kernel), List.mem_of_getElem? (i := 1095) (by decide +kernel)⟩
theorem lw_p46 : lw_okq (⟨"WorldDeltasModel", "launch", "(II)V"⟩, 8) := ⟨⟨by decide +kernel, by decide +kernel⟩, List.mem_of_getElem? (i := 846) (by decide +kernel), List.mem_of_getElem? (i := 1098) (by decide +kernel), List.mem_of_getElem? (i := 1099) (by decide +kernel)⟩
theorem lw_p47 : lw_okq (⟨"WorldDeltasModel", "copyValue", "(III)I"⟩, 8) := ⟨⟨by decide +kernel, by decide +kernel⟩, List.mem_of_getElem? (i := 846) (by decide +kernel), List.mem_of_getElem? (i := 1110) (by decide +kernel), List.mem_of_getElem? (i := 1111) (by decide +kernel)⟩
def lw_privs_3 : List (MethodName × Nat) := [(⟨"WorldDeltasModel", "recordState", "(III)I"⟩, 8), (⟨"WorldDeltasModel", "add", "(III)V"⟩, 8), (⟨"WorldDeltasModel", "addRecord", "(IIII)V"⟩, 8), (⟨"WorldDeltasModel", "sweep", "(I)V"⟩, 8), (⟨"WorldDeltasModel", "acknowledge", "(II)V"⟩, 8), (⟨"WorldDeltasModel", "settle", "(III)V"⟩, 8), (⟨"WorldDeltasModel", "serve", "(I)V"⟩, 8), (⟨"WorldDeltasModel", "giveUp", "(I)V"⟩, 8), (⟨"WorldDeltasModel", "raise", "(II)V"⟩, 8), (⟨"WorldDeltasModel", "flying", "(I)I"⟩, 8), (⟨"WorldDeltasModel", "send", "(I)V"⟩, 8), (⟨"WorldDeltasModel", "nextByPriority", "(I)I"⟩, 8), (⟨"WorldDeltasModel", "priceOf", "(II)I"⟩, 8), (⟨"WorldDeltasModel", "putEntry", "(III)V"⟩, 8), (⟨"WorldDeltasModel", "launch", "(II)V"⟩, 8), (⟨"WorldDeltasModel", "copyValue", "(III)I"⟩, 8)]
theorem lw_r3 : ∀ q ∈ lw_privs_3, lw_okq q := List.forall_mem_cons.mpr ⟨lw_p32, List.forall_mem_cons.mpr ⟨lw_p33, List.forall_mem_cons.mpr ⟨lw_p34, List.forall_mem_cons.mpr ⟨lw_p35, List.forall_mem_cons.mpr ⟨lw_p36, List.forall_mem_cons.mpr ⟨lw_p37, List.forall_mem_cons.mpr ⟨lw_p38, List.forall_mem_cons.mpr ⟨lw_p39, List.forall_mem_cons.mpr ⟨lw_p40, List.forall_mem_cons.mpr ⟨lw_p41, List.forall_mem_cons.mpr ⟨lw_p42, List.forall_mem_cons.mpr ⟨lw_p43, List.forall_mem_cons.mpr ⟨lw_p44, List.forall_mem_cons.mpr ⟨lw_p45, List.forall_mem_cons.mpr ⟨lw_p46, List.forall_mem_cons.mpr ⟨lw_p47, fun _ h => absurd h List.not_mem_nil⟩⟩⟩⟩⟩⟩⟩⟩⟩⟩⟩⟩⟩⟩⟩⟩
theorem lw_p48 : lw_okq (⟨"WorldDeltasModel", "copyState", "(II)I"⟩, 8) := ⟨⟨by decide +kernel, by decide +kernel⟩, List.mem_of_getElem? (i := 846) (by decide +kernel), List.mem_of_getElem? (i := 1114) (by decide +kernel), List.mem_of_getElem? (i := 1115) (by decide +kernel)⟩
theorem lw_p49 : lw_okq (⟨"WorldDeltasModel", "keptValue", "(III)I"⟩, 8) := ⟨⟨by decide +kernel, by decide +kernel⟩, List.mem_of_getElem? (i := 846) (by decide +kernel), List.mem_of_getElem? (i := 1122) (by decide +kernel), List.mem_of_getElem? (i := 1123) (by decide +kernel)⟩
theorem lw_p50 : lw_okq (⟨"WorldDeltasModel", "countOf", "(II)I"⟩, 8) := ⟨⟨by decide +kernel, by decide +kernel⟩, List.mem_of_getElem? (i := 846) (by decide +kernel), List.mem_of_getElem? (i := 1130) (by decide +kernel), List.mem_of_getElem? (i := 1131) (by decide +kernel)⟩
theorem lw_p51 : lw_okq (⟨"WorldDeltasModel", "staleOf", "(I)I"⟩, 8) := ⟨⟨by decide +kernel, by decide +kernel⟩, List.mem_of_getElem? (i := 846) (by decide +kernel), List.mem_of_getElem? (i := 1138) (by decide +kernel), List.mem_of_getElem? (i := 1139) (by decide +kernel)⟩
theorem lw_p52 : lw_okq (⟨"WorldDeltasModel", "fails", "(I)I"⟩, 8) := ⟨⟨by decide +kernel, by decide +kernel⟩, List.mem_of_getElem? (i := 846) (by decide +kernel), List.mem_of_getElem? (i := 1146) (by decide +kernel), List.mem_of_getElem? (i := 1147) (by decide +kernel)⟩
theorem lw_p53 : lw_okq (⟨"WorldDeltasModel", "flyingCell", "(II)I"⟩, 8) := ⟨⟨by decide +kernel, by decide +kernel⟩, List.mem_of_getElem? (i := 846) (by decide +kernel), List.mem_of_getElem? (i := 1150) (by decide +kernel), List.mem_of_getElem? (i := 1151) (by decide +kernel)⟩
theorem lw_p54 : lw_okq (⟨"WorldDeltasModel", "packetValue", "(II)I"⟩, 8) := ⟨⟨by decide +kernel, by decide +kernel⟩, List.mem_of_getElem? (i := 846) (by decide +kernel), List.mem_of_getElem? (i := 1154) (by decide +kernel), List.mem_of_getElem? (i := 1155) (by decide +kernel)⟩
theorem lw_p55 : lw_okq (⟨"WorldDeltasModel", "entryValue", "(III)I"⟩, 8) := ⟨⟨by decide +kernel, by decide +kernel⟩, List.mem_of_getElem? (i := 846) (by decide +kernel), List.mem_of_getElem? (i := 1162) (by decide +kernel), List.mem_of_getElem? (i := 1163) (by decide +kernel)⟩
theorem lw_p56 : lw_okq (⟨"WorldDeltasModel", "mix", "(J)V"⟩, 8) := ⟨⟨by decide +kernel, by decide +kernel⟩, List.mem_of_getElem? (i := 846) (by decide +kernel), List.mem_of_getElem? (i := 1179) (by decide +kernel), List.mem_of_getElem? (i := 1180) (by decide +kernel)⟩
theorem lw_p57 : lw_okq (⟨"WorldDeltasModel", "mixClient", "(I)V"⟩, 8) := ⟨⟨by decide +kernel, by decide +kernel⟩, List.mem_of_getElem? (i := 846) (by decide +kernel), List.mem_of_getElem? (i := 1184) (by decide +kernel), List.mem_of_getElem? (i := 1185) (by decide +kernel)⟩
theorem lw_p58 : lw_okq (⟨"WorldDeltasModel", "mixEntity", "(IIZ)V"⟩, 8) := ⟨⟨by decide +kernel, by decide +kernel⟩, List.mem_of_getElem? (i := 846) (by decide +kernel), List.mem_of_getElem? (i := 1188) (by decide +kernel), List.mem_of_getElem? (i := 1189) (by decide +kernel)⟩
theorem lw_p59 : lw_okq (⟨"WorldDeltasModel", "mixPacket", "(I)V"⟩, 8) := ⟨⟨by decide +kernel, by decide +kernel⟩, List.mem_of_getElem? (i := 846) (by decide +kernel), List.mem_of_getElem? (i := 1192) (by decide +kernel), List.mem_of_getElem? (i := 1193) (by decide +kernel)⟩
def lw_privs_4 : List (MethodName × Nat) := [(⟨"WorldDeltasModel", "copyState", "(II)I"⟩, 8), (⟨"WorldDeltasModel", "keptValue", "(III)I"⟩, 8), (⟨"WorldDeltasModel", "countOf", "(II)I"⟩, 8), (⟨"WorldDeltasModel", "staleOf", "(I)I"⟩, 8), (⟨"WorldDeltasModel", "fails", "(I)I"⟩, 8), (⟨"WorldDeltasModel", "flyingCell", "(II)I"⟩, 8), (⟨"WorldDeltasModel", "packetValue", "(II)I"⟩, 8), (⟨"WorldDeltasModel", "entryValue", "(III)I"⟩, 8), (⟨"WorldDeltasModel", "mix", "(J)V"⟩, 8), (⟨"WorldDeltasModel", "mixClient", "(I)V"⟩, 8), (⟨"WorldDeltasModel", "mixEntity", "(IIZ)V"⟩, 8), (⟨"WorldDeltasModel", "mixPacket", "(I)V"⟩, 8)]
theorem lw_r4 : ∀ q ∈ lw_privs_4, lw_okq q := List.forall_mem_cons.mpr ⟨lw_p48, List.forall_mem_cons.mpr ⟨lw_p49, List.forall_mem_cons.mpr ⟨lw_p50, List.forall_mem_cons.mpr ⟨lw_p51, List.forall_mem_cons.mpr ⟨lw_p52, List.forall_mem_cons.mpr ⟨lw_p53, List.forall_mem_cons.mpr ⟨lw_p54, List.forall_mem_cons.mpr ⟨lw_p55, List.forall_mem_cons.mpr ⟨lw_p56, List.forall_mem_cons.mpr ⟨lw_p57, List.forall_mem_cons.mpr ⟨lw_p58, List.forall_mem_cons.mpr ⟨lw_p59, fun _ h => absurd h List.not_mem_nil⟩⟩⟩⟩⟩⟩⟩⟩⟩⟩⟩⟩
def lw_privs : List (MethodName × Nat) := lw_privs_1 ++ (lw_privs_2 ++ (lw_privs_3 ++ (lw_privs_4)))
def lw_tbl : List Cond := k2_sels lw_privs ++ tables_1
theorem lw_privs_ok : ∀ q ∈ lw_privs, lw_okq q := by
  show ∀ q ∈ lw_privs_1 ++ (lw_privs_2 ++ (lw_privs_3 ++ (lw_privs_4))), lw_okq q
  exact List.forall_mem_append.mpr ⟨lw_r1, List.forall_mem_append.mpr ⟨lw_r2, List.forall_mem_append.mpr ⟨lw_r3, lw_r4⟩⟩⟩
end
section
/-! ===== BEGIN words of one list among another's, by their places ===== -/
theorem goodIn_r {big : List Cond} (ws : List Cond) (ps : List Nat) (hp : ws = ps.filterMap (fun i => big[i]?)) (h : ws.all goodWord = true) : GoodIn big ws := by
  intro w hw
  have h1 := List.all_eq_true.mp h w hw
  rw [hp] at hw
  obtain ⟨i, -, hi⟩ := List.mem_filterMap.mp hw
  have hm : w ∈ big := by first | exact List.mem_of_getElem? hi | exact List.getElem?_mem hi
  exact ⟨hm, good_of_word h1⟩
theorem goodIn_app {big a b : List Cond} (ha : GoodIn big a) (hb : GoodIn big b) : GoodIn big (a ++ b) := fun w h => (List.mem_append.mp h).elim (ha w) (hb w)
theorem goodIn_ca {big a b : List Cond} {c : Cond} (ha : GoodIn big (c :: a)) (hb : GoodIn big b) : GoodIn big (c :: (a ++ b)) := fun w h => (List.mem_cons.mp h).elim (fun e => ha w (List.mem_cons.mpr (Or.inl e))) (fun h => (List.mem_append.mp h).elim (fun h => ha w (List.mem_cons.mpr (Or.inr h))) (hb w))
theorem goodIn_sub {big ws : List Cond} (hm : ∀ w ∈ ws, w ∈ big) (h : ws.all goodWord = true) : GoodIn big ws := fun w hw => ⟨hm w hw, good_of_word (List.all_eq_true.mp h w hw)⟩
/-! ===== END ===== -/

/-! ===== BEGIN exceptions that leave a method, and their catching by the caller (launches without stack traces) ===== -/
section VXA
/-! The laws vx_back, vx_callV, vx_callS, vx_callSW, vx_throw0, vx_throwS follow proofs of the library, with one case more: JvmDerived/Free/Laws.lean (Back.of_free), Shelf42/LK1.lean (callV, callS), Shelf/KitTraced.lean (throwNew0V, throwNewS). -/
/-- where a method has thrown q: the class by its name, the cell, what was written, the world -/
def vx_T (XC : String → State → State → Prop) (st : State) (q : Addr) (t : State) (mc ms : Nat) (free : Addr → Prop) : Prop :=
  ∃ (E : String) (ce : Cell) (L : List Loc), XC E st t ∧ t.heap[q]? = some ce ∧ ce.vm = .none ∧ st.vm.findClass E = some ce.cls ∧ st.WarmedH t.vm ∧ st.sameButNew ({ t with vm := st.vm } : State) L mc ms ∧ ∀ z ∈ L, free z.base
def vx_Q (Qc : Array Value → State → Outcome → State → Prop) (XC : String → State → State → Prop) (mc ms : Nat) (free : Addr → Prop) : Array Value → State → Outcome → State → Prop := fun a st o t =>
  (Qc a st o t ∧ ∃ L, FrameEnd st o t L mc ms ∧ ∀ q ∈ L, free q.base) ∨ ∃ q, o = .threw q ∧ vx_T XC st q t mc ms free
/-- a callee that returns or throws -/
def vx_Met (l : Launch) (y : MethodName) (ws : List Cond) (rm : Room) (Pc : Array Value → State → Prop) (Qc : Array Value → State → Outcome → State → Prop) (XC : String → State → State → Prop) (mc ms : Nat) (free : Addr → Prop) : Prop :=
  MetFree l y (headSpec ws rm) Pc (fun _ _ _ _ _ => True) (vx_Q Qc XC mc ms free)
def vx_Post (XC : String → State → State → Prop) (mc ms : Nat) (free : Addr → Prop) : Pt → Array Value → Addr → Pt → Prop := fun A a q B =>
  ∃ (g : JFrame) (mk : MethodId) (t : State) (L : List Loc) (E : String) (ce : Cell), B.U.heap = t.heap ∧ B.U.vm = t.vm ∧ XC E (A.U.calling g mk a) t ∧ t.heap[q]? = some ce ∧ ce.vm = .none ∧ A.U.vm.findClass E = some ce.cls ∧ B.locs = A.locs ++ L ∧ (∀ z ∈ L, free z.base) ∧ B.cells = A.cells + mc ∧ B.slots = A.slots + ms
def vx_Back (l : Launch) (R : Room) (p : Program) (e : Env) (below : List Frame) (s : State) (sargs : Array Value) (y : MethodName) (len W9 : Nat)
    (Pre : Pt → Array Value → Prop) (Post : Pt → Array Value → Option Value → Pt → Prop) (PostX : Pt → Array Value → Addr → Pt → Prop) : Prop :=
  ∀ (m : MethodId) (meth : Method) (c : Code) (A : Pt) (g : JFrame) (ig : Instr) (mk : MethodId) (a : Array Value),
    Stand p l e R s m sargs below meth c A.U A.locs A.cells A.slots → g.method = m → g.locals.size = c.maxLocals → decode c.code g.pc = .ok (ig, len) →
    2 * g.monitorRoom + (g.stack.map fun v => v.category).sum ≤ W9 → A.U.methodNamed? y = some mk → Pre A a →
    (∃ (v : Option Value) (B : Pt), Stand p l e R s m sargs below meth c B.U B.locs B.cells B.slots ∧ Post A a v B ∧
      Steps p.tables e below (doInvoke e (A.U.setTop g) [] mk a).1 (B.U.setTop { g with pc := g.pc + len, stack := v.toList ++ g.stack })) ∨
    (∃ (q : Addr) (B : Pt), Stand p l e R s m sargs below meth c B.U B.locs B.cells B.slots ∧ PostX A a q B ∧
      Steps p.tables e below (doInvoke e (A.U.setTop g) [] mk a).1 ((B.U.setTop g).pushFrame (.throwing q)))
section Payer
variable {l : Launch} {R : Room} {p : Program} {e : Env} {below : List Frame} {s : State} {sargs : Array Value} {y : MethodName} {len W9 : Nat}
theorem vx_back {ws : List Cond} {rm : Room} {Pc : Array Value → State → Prop} {Qc : Array Value → State → Outcome → State → Prop} {XC : String → State → State → Prop} {mc ms : Nat} {free : Addr → Prop} {bytes : ByteArray} {maxL : Nat} {ret : Option FieldType}
    (hM : vx_Met l y ws rm Pc Qc XC mc ms free) (hblind : FrameBlind Pc) (hrc : rm.cells = mc) (hrs : rm.slots = ms)
    (hframes : rm.frames + 1 ≤ R.frames) (hlocals : W9 + (maxL + 11) + rm.locals ≤ R.locals)
    (hws : ∀ w ∈ ws, ∀ a' U, s.WarmedH U.vm → w.before a' U = true) (hcode : Cond.code y bytes maxL ret ∈ ws) (hinit : ∀ a' U, s.WarmedH U.vm → (Cond.initialized y.cls).before a' U = true) :
    vx_Back l R p e below s sargs y len W9 (PreOf R mc ms Pc) (PostOf Qc mc ms free) (vx_Post XC mc ms free) := by
  intro m meth c A g ig mk a X hg hsize hdg hW hn hp
  have h1 : (headSpec ws rm).pre.before a A.U = true := atoms_intro fun w hw => hws w hw _ _ X.warmed
  have h2 : (Cond.code y bytes maxL ret).before a A.U = true := hws _ hcode _ _ X.warmed
  have h3 : (Cond.initialized y.cls).before a A.U = true := hinit _ _ X.warmed
  have h4 : A.cells + (headSpec ws rm).room.cells ≤ R.cells := by rw [show (headSpec ws rm).room.cells = mc from hrc]; exact hp.1
  have h5 : A.slots + (headSpec ws rm).room.slots ≤ R.slots := by rw [show (headSpec ws rm).room.slots = ms from hrs]; exact hp.2.1
  have hPc : Pc a (A.U.calling g mk a) := hblind _ _ _ _ hp.2.2
  obtain ⟨U, Ls, c0, s0⟩ := A
  dsimp only [Pt.U, Pt.locs, Pt.cells, Pt.slots] at h1 h2 h3 h4 h5 X hn hPc ⊢
  obtain ⟨methY, cY, hmY, hcY, -, hlY, -, -, -, -⟩ := Cond.code_spec hn h2
  obtain ⟨kY, hkY, -⟩ := className_of_methodNamed hn
  have hinitY : kY.init = .initialized := Cond.initialized_spec (findClass_of_methodNamed hn) hkY h3
  have h : At U g.method c below := by rw [hg]; exact X.here
  have hlocals9 : W9 + (maxL + 11) + (headSpec ws rm).room.locals ≤ R.locals := hlocals
  have happ : (headSpec ws rm).appliesLoose y e.platform (U.calling g mk a) = true :=
    Spec.appliesLoose_calling (g := g) h hdg hn hkY hinitY
      (X.room_calling (g := g) (R' := (headSpec ws rm).room) hsize hmY hcY hframes (by rw [hlY]; omega) h4 h5) h1
  obtain ⟨mid, hmid⟩ := h.above
  have hfr : (U.setTop g).frames = (.java g :: mid) ++ below := by rw [State.frames_setTop' g h.top, hmid]; rfl
  obtain ⟨o, s₂, hsteps, -, hend, hq⟩ := Steps.callFree hM p X.admits X.cas X.clock (acts := []) hfr happ hPc trivial
  have hq' : vx_Q Qc XC mc ms free a (U.calling g mk a) o s₂ := hq
  rw [State.frames_setTop' g h.top] at hend
  obtain ⟨g₀, hg0⟩ := Option.isSome_iff_exists.mp h.top
  obtain ⟨r, hr⟩ := State.topJava?_eq_some.mp hg0
  have hr' : (({ U with heap := s₂.heap, slotsUsed := s₂.slotsUsed } : State).setVm s₂.vm).frames = .java g₀ :: r := hr
  rcases hq' with ⟨hqc, L, hfe, hL⟩ | ⟨q, rfl, E, ce, L, hx, hce, hcv, hcl, hW₂, hsm, hL⟩
  · obtain ⟨⟨v, rfl⟩, hW₂, e2, q2, q3, q4, q5, q6⟩ := id hfe
    have e3 : s₂ = ({ (U.calling g mk a).setFrames s₂.frames with heap := s₂.heap, slotsUsed := s₂.slotsUsed } : State).setVm s₂.vm := by
      have : s₂ = ({ s₂ with vm := (U.calling g mk a).vm } : State).setVm s₂.vm := rfl
      rw [e2] at this
      exact this
    obtain ⟨c₂, i₂, len₂, hc₂, hd₂, hf₂⟩ := hend
    have hW' : U.WarmedH s₂.vm := hW₂
    have hcc : c₂ = c := by
      have h1 : s₂.code? g.method = U.code? g.method := by
        rw [State.code?_eq, State.code?_eq, hW'.alike.method?]
      exact Option.some.inj (hc₂.symm.trans (h1.trans h.code))
    subst hcc
    have hlen : len₂ = len := by rw [hdg] at hd₂; cases hd₂; rfl
    subst hlen
    have hs₂ : s₂ = (({ U with heap := s₂.heap, slotsUsed := s₂.slotsUsed } : State).setVm s₂.vm).setTop { g with pc := g.pc + len₂, stack := v.toList ++ g.stack } := by
      refine e3.trans ?_
      rw [hf₂, State.calling_eq h.top, State.setFrames_setFrames, State.setTop_of_frames _ hr', hr]
      rfl
    have hsame : U.sameButNew ({ U with heap := s₂.heap, slotsUsed := s₂.slotsUsed } : State) L mc ms := by
      refine ⟨?_, q2, q3, q4, q5, q6⟩
      obtain ⟨t, ht, -⟩ := State.frames_cons hr
      show ({ U with heap := s₂.heap, slotsUsed := s₂.slotsUsed } : State) = { U.setFrames U.frames with heap := s₂.heap, slotsUsed := s₂.slotsUsed }
      rw [State.setFrames_self ht]
    subst hg
    refine Or.inl ⟨v, ⟨(({ U with heap := s₂.heap, slotsUsed := s₂.slotsUsed } : State).setVm s₂.vm), Ls ++ L, c0 + mc, s0 + ms⟩,
      ⟨X.admits, X.cas, X.clock, X.frames, X.room, X.hears, X.method, X.code, (X.here.setHeapUsed s₂.heap s₂.slotsUsed).setVm hW'.alike, X.tail, State.WarmedH.trans X.warmed hW', X.limits, X.bytes, X.same.trans (hsame.setVm s.vm)⟩,
      ⟨g, mk, s₂, L, rfl, rfl, hqc, rfl, hL, rfl, rfl⟩, ?_⟩
    show Steps p.tables e below _ ((({ U with heap := s₂.heap, slotsUsed := s₂.slotsUsed } : State).setVm s₂.vm).setTop { g with pc := g.pc + len₂, stack := v.toList ++ g.stack })
    rw [← hs₂]
    exact hsteps
  · obtain ⟨e2, q2, q3, q4, q5, q6⟩ := id hsm
    have e3 : s₂ = ({ (U.calling g mk a).setFrames s₂.frames with heap := s₂.heap, slotsUsed := s₂.slotsUsed } : State).setVm s₂.vm := by
      have : s₂ = ({ s₂ with vm := (U.calling g mk a).vm } : State).setVm s₂.vm := rfl
      rw [e2] at this
      exact this
    have hf₂ : s₂.frames = .throwing q :: .java g :: U.frames.tail := hend
    have hW' : U.WarmedH s₂.vm := hW₂
    have hs₂ : s₂ = ((({ U with heap := s₂.heap, slotsUsed := s₂.slotsUsed } : State).setVm s₂.vm).setTop g).pushFrame (.throwing q) := by
      refine e3.trans ?_
      rw [hf₂, State.calling_eq h.top, State.setFrames_setFrames, State.pushFrame, State.frames_setTop _ hr', State.setTop_of_frames _ hr', State.setFrames_setFrames, hr]
      rfl
    have hsame : U.sameButNew ({ U with heap := s₂.heap, slotsUsed := s₂.slotsUsed } : State) L mc ms := by
      refine ⟨?_, q2, q3, q4, q5, q6⟩
      obtain ⟨t, ht, -⟩ := State.frames_cons hr
      show ({ U with heap := s₂.heap, slotsUsed := s₂.slotsUsed } : State) = { U.setFrames U.frames with heap := s₂.heap, slotsUsed := s₂.slotsUsed }
      rw [State.setFrames_self ht]
    subst hg
    refine Or.inr ⟨q, ⟨(({ U with heap := s₂.heap, slotsUsed := s₂.slotsUsed } : State).setVm s₂.vm), Ls ++ L, c0 + mc, s0 + ms⟩,
      ⟨X.admits, X.cas, X.clock, X.frames, X.room, X.hears, X.method, X.code, (X.here.setHeapUsed s₂.heap s₂.slotsUsed).setVm hW'.alike, X.tail, State.WarmedH.trans X.warmed hW', X.limits, X.bytes, X.same.trans (hsame.setVm s.vm)⟩,
      ⟨g, mk, s₂, L, E, ce, rfl, rfl, hx, hce, hcv, hcl, rfl, hL, rfl, rfl⟩, ?_⟩
    show Steps p.tables e below _ (((({ U with heap := s₂.heap, slotsUsed := s₂.slotsUsed } : State).setVm s₂.vm).setTop g).pushFrame (.throwing q))
    rw [← hs₂]
    exact hsteps
end Payer
section Calls
variable {p : Program} {l : Launch} {e : Env} {R : Room} {s : State} {m : MethodId} {args : Array Value} {below : List Frame} {meth : Method} {c : Code} {T : State} {locs : List Loc} {cells slots : Nat}
theorem vx_callV (X : Stand p l e R s m args below meth c T locs cells slots) (hexec : p.tables.exec = Jvm.exec) {own C : String} {index : Nat} {y : MethodName} {bytes : ByteArray} {maxL : Nat} {ret : Option FieldType}
    (hown : s.vm.findClass own = some m.cls) (hlink : (Cond.methodLink own index y).before args s = true) (hinst : (Cond.instanceMethod y).before args s = true) (hsel : (Cond.selects C y y).before args s = true)
    (hcode : (Cond.code y bytes maxL ret).before args s = true) (hy : y.cls ≠ "java/lang/invoke/MethodHandle" ∧ y.cls ≠ "java/lang/invoke/VarHandle")
    {W9 : Nat} {Pre : Pt → Array Value → Prop} {Post : Pt → Array Value → Option Value → Pt → Prop} {PostX : Pt → Array Value → Addr → Pt → Prop} (hK : vx_Back l R p e below s args y 3 W9 Pre Post PostX)
    {b : Addr} {cellB : Cell} (hcell : T.heap[b]? = some cellB) (hobj : cellB.vm.isStatics = false) (hcls : s.vm.findClass C = some cellB.cls)
    {g : JFrame} (hg : g.method = m) (hsize : g.locals.size = c.maxLocals) {argsL rest : List Value} (hlen : ∀ sig, parseMethodDescriptor y.desc = some sig → argsL.length = sig.parameters.length)
    (hstack : g.stack = argsL.reverse ++ .ref b :: rest) (hW : 2 * g.monitorRoom + (rest.map fun v => v.category).sum ≤ W9) (hdg : decode c.code g.pc = .ok (.invokevirtual index, 3))
    (hpre : ∀ vm₁, s.WarmedH vm₁ → Pre ⟨T.setVm vm₁, locs, cells, slots⟩ (Value.ref b :: argsL).toArray) :
    (∃ (v : Option Value) (vm₁ : Vm) (B : Pt), s.WarmedH vm₁ ∧ Stand p l e R s m args below meth c B.U B.locs B.cells B.slots ∧ Post ⟨T.setVm vm₁, locs, cells, slots⟩ (Value.ref b :: argsL).toArray v B ∧
      ∀ target, Steps p.tables e below (B.U.setTop { g with pc := g.pc + 3, stack := v.toList ++ rest }) target → Steps p.tables e below (T.setTop g) target) ∨
    (∃ (q : Addr) (vm₁ : Vm) (B : Pt), s.WarmedH vm₁ ∧ Stand p l e R s m args below meth c B.U B.locs B.cells B.slots ∧ PostX ⟨T.setVm vm₁, locs, cells, slots⟩ (Value.ref b :: argsL).toArray q B ∧
      Steps p.tables e below (T.setTop g) ((B.U.setTop { g with stack := rest }).pushFrame (.throwing q))) := by
  obtain ⟨mk, methM, hnamed, hmethM, hstM, habM⟩ := Cond.instanceMethod_spec hinst
  obtain ⟨methM', cM, hmethM', -, -, -, -, -, -, hsigM⟩ := Cond.code_spec hnamed hcode
  cases hmethM.symm.trans hmethM'
  obtain ⟨c2, r2, m2, q1, q2, q3, q4, kP, hkP, hkPi⟩ := Cond.selects_spec hsel
  cases hcls.symm.trans q1
  cases (State.methodFound?_of_named hnamed hy).symm.trans q2
  cases hnamed.symm.trans q3
  have hselP : selectMethod e.platform s.vm cellB.cls mk = .method mk := by rw [Launch.admits_selectMethod X.admits]; exact q4
  obtain ⟨vm₁, X₁, hstep₁⟩ := X.invokevirtual hexec hown hlink hnamed hmethM hstM hkP hkPi hy (a := b) (cell := cellB) hcell
    (fun z h => by rw [h] at hobj; cases hobj) hselP hmethM habM hkP hkPi (g := g) hg (argsL := argsL) (rest := rest) (hlen _ hsigM) hstack hdg
  rcases hK m meth c ⟨T.setVm vm₁, locs, cells, slots⟩ { g with stack := rest } (.invokevirtual index) mk (Value.ref b :: argsL).toArray X₁ hg hsize hdg hW (X₁.named hnamed) (hpre vm₁ X₁.warmed) with ⟨v, B, X', hpost, hsteps⟩ | ⟨q, B, X', hpost, hsteps⟩
  · exact Or.inl ⟨v, vm₁, B, X₁.warmed, X', hpost, fun target h => hstep₁ _ fun acts => by rw [doInvoke_state]; exact hsteps.trans h⟩
  · exact Or.inr ⟨q, vm₁, B, X₁.warmed, X', hpost, hstep₁ _ fun acts => by rw [doInvoke_state]; exact hsteps⟩
theorem vx_callS (X : Stand p l e R s m args below meth c T locs cells slots) (hexec : p.tables.exec = Jvm.exec) {own : String} {index : Nat} {y : MethodName} {bytes : ByteArray} {maxL : Nat} {ret : Option FieldType}
    (hown : s.vm.findClass own = some m.cls) (hlink : (Cond.methodLink own index y).before args s = true) (hstat : (Cond.static y).before args s = true) (hinit : (Cond.initialized y.cls).before args s = true)
    (hcode : (Cond.code y bytes maxL ret).before args s = true) (hy : y.cls ≠ "java/lang/invoke/MethodHandle" ∧ y.cls ≠ "java/lang/invoke/VarHandle")
    {W9 : Nat} {Pre : Pt → Array Value → Prop} {Post : Pt → Array Value → Option Value → Pt → Prop} {PostX : Pt → Array Value → Addr → Pt → Prop} (hK : vx_Back l R p e below s args y 3 W9 Pre Post PostX)
    {g : JFrame} (hg : g.method = m) (hsize : g.locals.size = c.maxLocals) {argsL rest : List Value} (hlen : ∀ sig, parseMethodDescriptor y.desc = some sig → argsL.length = sig.parameters.length)
    (hstack : g.stack = argsL.reverse ++ rest) (hW : 2 * g.monitorRoom + (rest.map fun v => v.category).sum ≤ W9) (hdg : decode c.code g.pc = .ok (.invokestatic index, 3))
    (hpre : ∀ vm₁, s.WarmedH vm₁ → Pre ⟨T.setVm vm₁, locs, cells, slots⟩ argsL.toArray) :
    (∃ (v : Option Value) (vm₁ : Vm) (B : Pt), s.WarmedH vm₁ ∧ Stand p l e R s m args below meth c B.U B.locs B.cells B.slots ∧ Post ⟨T.setVm vm₁, locs, cells, slots⟩ argsL.toArray v B ∧
      ∀ target, Steps p.tables e below (B.U.setTop { g with pc := g.pc + 3, stack := v.toList ++ rest }) target → Steps p.tables e below (T.setTop g) target) ∨
    (∃ (q : Addr) (vm₁ : Vm) (B : Pt), s.WarmedH vm₁ ∧ Stand p l e R s m args below meth c B.U B.locs B.cells B.slots ∧ PostX ⟨T.setVm vm₁, locs, cells, slots⟩ argsL.toArray q B ∧
      Steps p.tables e below (T.setTop g) ((B.U.setTop { g with stack := rest }).pushFrame (.throwing q))) := by
  obtain ⟨mk, hnamed⟩ := Cond.code_named hcode
  obtain ⟨methM, cM, hmethM, -, -, -, -, -, -, hsigM⟩ := Cond.code_spec hnamed hcode
  have hstatic : methM.isStatic = true := Cond.static_spec hnamed hmethM hstat
  obtain ⟨kP, hkP, -⟩ := className_of_methodNamed hnamed
  have hinitP : kP.init = .initialized := Cond.initialized_spec (findClass_of_methodNamed hnamed) hkP hinit
  obtain ⟨vm₁, X₁, hstep₁⟩ := X.invokestatic hexec hown hlink hnamed hmethM hstatic hkP hinitP hy (g := g) hg (argsL := argsL) (rest := rest) (hlen _ hsigM) hstack hdg
  rcases hK m meth c ⟨T.setVm vm₁, locs, cells, slots⟩ { g with stack := rest } (.invokestatic index) mk argsL.toArray X₁ hg hsize hdg hW (X₁.named hnamed) (hpre vm₁ X₁.warmed) with ⟨v, B, X', hpost, hsteps⟩ | ⟨q, B, X', hpost, hsteps⟩
  · exact Or.inl ⟨v, vm₁, B, X₁.warmed, X', hpost, fun target h => hstep₁ _ fun acts => by rw [doInvoke_state]; exact hsteps.trans h⟩
  · exact Or.inr ⟨q, vm₁, B, X₁.warmed, X', hpost, hstep₁ _ fun acts => by rw [doInvoke_state]; exact hsteps⟩
end Calls
theorem vx_cls {s : State} {T : State} {vm₁ : Vm} {E : String} {k : ClassId} (hW : s.WarmedH vm₁) (h : (T.setVm vm₁).vm.findClass E = some k) : s.vm.findClass E = some k := by
  have h1 : vm₁.findClass E = some k := h
  rw [hW.alike.findClass] at h1
  exact h1
/-- the method's frame g, with q thrown over it -/
def vx_W (p : Program) (l : Launch) (e : Env) (R : Room) (s : State) (m : MethodId) (args : Array Value) (below : List Frame) (meth : Method) (c : Code) (H : Heap) (locs : List Loc) (cells slots : Nat) (Q : State → Prop) (g : JFrame) (q : Addr) : Prop :=
  ∀ T : State, T.heap = H → Stand p l e R s m args below meth c T locs cells slots → ∃ t, Steps p.tables e below ((T.setTop g).pushFrame (.throwing q)) t ∧ Q t
def vx_Run (p : Program) (l : Launch) (e : Env) (R : Room) (s : State) (m : MethodId) (args : Array Value) (below : List Frame) (meth : Method) (c : Code) (H : Heap) (locs : List Loc) (cells slots mc ms : Nat) (g : JFrame) (rest : List Value) (Qa : State → Outcome → State → Prop) (XC : String → State → State → Prop) (free : Addr → Prop) : Prop :=
  ∀ T : State, T.heap = H → Stand p l e R s m args below meth c T locs cells slots →
    (∃ (v : Option Value) (st₀ t T' : State) (L : List Loc), st₀.heap = H ∧ Stand p l e R s m args below meth c T' (locs ++ L) (cells + mc) (slots + ms) ∧ (∀ q ∈ L, free q.base) ∧ T'.heap = t.heap ∧ T'.vm = t.vm ∧ Qa st₀ (.returned v) t ∧
      Goes p e below T g T' { g with pc := g.pc + 3, stack := v.toList ++ rest }) ∨
    (∃ (q : Addr) (st₀ t T' : State) (L : List Loc) (E : String) (ce : Cell), st₀.heap = H ∧ Stand p l e R s m args below meth c T' (locs ++ L) (cells + mc) (slots + ms) ∧ (∀ z ∈ L, free z.base) ∧ T'.heap = t.heap ∧ T'.vm = t.vm ∧ XC E st₀ t ∧ t.heap[q]? = some ce ∧ ce.vm = .none ∧ s.vm.findClass E = some ce.cls ∧
      Steps p.tables e below (T.setTop g) ((T'.setTop { g with stack := rest }).pushFrame (.throwing q)))
def vx_X {S : Type} (px : S → Prop) (B : String → S → State → Prop) (A : Nat → Prop) : String → State → State → Prop := fun E st t => ∃ u : S, px u ∧ B E u t ∧ va_F A st t
section Runs
variable {p : Program} {l : Launch} {e : Env} {R : Room} {s : State} {m : MethodId} {args : Array Value} {below : List Frame} {meth : Method} {c : Code} {H : Heap} {locs : List Loc} {cells slots : Nat}
variable {y : MethodName} {bytes cc : ByteArray} {maxL nL mc ms n index : Nat} {ret : Option FieldType} {ws : List Cond} {rm : Room} {Pc : Array Value → State → Prop} {Qc : Array Value → State → Outcome → State → Prop} {XC : String → State → State → Prop} {free : Addr → Prop} {Ts : List Cond} {own C : String} {b : Addr} {As rest : List Value} {g : JFrame}
theorem vx_callBack (cb : CallB R s args own index y bytes maxL ret ws rm mc ms n) (hM : vx_Met l y ws rm Pc Qc XC mc ms free) (hbl : FrameBlind Pc) : vx_Back l R p e below s args y 3 8 (PreOf R mc ms Pc) (PostOf Qc mc ms free) (vx_Post XC mc ms free) := by
  obtain ⟨hrc, hrs, hfr, hlo, hws, hcw, -, hini, -⟩ := cb
  exact vx_back (bytes := bytes) (maxL := maxL) (ret := ret) hM hbl hrc hrs hfr hlo hws hcw (fun a' U hW => word_at hW (Or.inl (by first | rfl | simp [Cond.onTables, Cond.keeps, Cond.steady])) hini)
theorem vx_runV (S : CallFix p m c cc nL s args Ts own) (hM : vx_Met l y ws rm Pc Qc XC mc ms free) (cw : CallW R s args own C index y bytes maxL ret ws rm mc ms n) (hp : PreV s H C b Pc As)
    (hg : g.method = m) (hn : As.length = n) (hsize : g.locals.size = nL) (hstack : g.stack = As.reverse ++ .ref b :: rest) (hW : 2 * g.monitorRoom + (rest.map fun v => v.category).sum ≤ 8) (hdg : decode cc g.pc = .ok (.invokevirtual index, 3)) (hf : cells + mc ≤ R.cells ∧ slots + ms ≤ R.slots) :
    vx_Run p l e R s m args below meth c H locs cells slots mc ms g rest (Qc (Value.ref b :: As).toArray) XC free := by
  have hK : vx_Back l R p e below s args y 3 8 (PreOf R mc ms Pc) (PostOf Qc mc ms free) (vx_Post XC mc ms free) := vx_callBack cw.1 hM hp.1
  obtain ⟨⟨-, -, -, -, -, -, hcode, -, hy, hlen, hl⟩, hin, hse⟩ := cw
  obtain ⟨hx, hb, hml, ho, -⟩ := S
  obtain ⟨-, ⟨cellB, hcB, hoB, hclB⟩, hPc⟩ := hp
  intro T hT X
  rcases vx_callV X hx (C := C) (bytes := bytes) (maxL := maxL) (ret := ret) ho hl hin hse hcode hy hK (by rw [hT]; exact hcB) hoB hclB hg (hsize.trans hml.symm) (argsL := As) (rest := rest) (fun sig h => hn.trans (hlen sig h)) hstack hW (by rw [hb]; exact hdg)
    (fun vm₁ hW₁ => ⟨hf.1, hf.2, hPc (T.setVm vm₁) hT hW₁⟩) with ⟨v, vm₁, ⟨U', l2, c2, s2⟩, hW₁, X', ⟨g', mk, t, L, e1, e2, hq, h1, hL, h2, h3⟩, st⟩ | ⟨q, vm₁, ⟨U', l2, c2, s2⟩, hW₁, X', ⟨g', mk, t, L, E, ce, e1, e2, hq, hce, hcv, hcl, h1, hL, h2, h3⟩, st⟩
  · dsimp only [Pt.U, Pt.locs, Pt.cells, Pt.slots] at X' e1 e2 h1 h2 h3 st
    subst h1; subst h2; subst h3
    exact Or.inl ⟨v, (T.setVm vm₁).calling g' mk (Value.ref b :: As).toArray, t, U', L, hT, X', hL, e1, e2, hq, st⟩
  · dsimp only [Pt.U, Pt.locs, Pt.cells, Pt.slots] at X' e1 e2 h1 h2 h3 st hcl
    subst h1; subst h2; subst h3
    exact Or.inr ⟨q, (T.setVm vm₁).calling g' mk (Value.ref b :: As).toArray, t, U', L, E, ce, hT, X', hL, e1, e2, hq, hce, hcv, vx_cls hW₁ hcl, st⟩
theorem vx_runS (S : CallFix p m c cc nL s args Ts own) (hM : vx_Met l y ws rm Pc Qc XC mc ms free) (cw : CallB R s args own index y bytes maxL ret ws rm mc ms n ∧ (Cond.static y).before args s = true) (hp : PreS s H Pc As)
    (hg : g.method = m) (hn : As.length = n) (hsize : g.locals.size = nL) (hstack : g.stack = As.reverse ++ rest) (hW : 2 * g.monitorRoom + (rest.map fun v => v.category).sum ≤ 8) (hdg : decode cc g.pc = .ok (.invokestatic index, 3)) (hf : cells + mc ≤ R.cells ∧ slots + ms ≤ R.slots) :
    vx_Run p l e R s m args below meth c H locs cells slots mc ms g rest (Qc As.toArray) XC free := by
  have hK : vx_Back l R p e below s args y 3 8 (PreOf R mc ms Pc) (PostOf Qc mc ms free) (vx_Post XC mc ms free) := vx_callBack cw.1 hM hp.1
  obtain ⟨⟨-, -, -, -, -, -, hcode, hini, hy, hlen, hl⟩, hstt⟩ := cw
  obtain ⟨hx, hb, hml, ho, -⟩ := S
  intro T hT X
  rcases vx_callS X hx (bytes := bytes) (maxL := maxL) (ret := ret) ho hl hstt hini hcode hy hK hg (hsize.trans hml.symm) (argsL := As) (rest := rest) (fun sig h => hn.trans (hlen sig h)) hstack hW (by rw [hb]; exact hdg)
    (fun vm₁ hW₁ => ⟨hf.1, hf.2, hp.2 (T.setVm vm₁) hT hW₁⟩) with ⟨v, vm₁, ⟨U', l2, c2, s2⟩, hW₁, X', ⟨g', mk, t, L, e1, e2, hq, h1, hL, h2, h3⟩, st⟩ | ⟨q, vm₁, ⟨U', l2, c2, s2⟩, hW₁, X', ⟨g', mk, t, L, E, ce, e1, e2, hq, hce, hcv, hcl, h1, hL, h2, h3⟩, st⟩
  · dsimp only [Pt.U, Pt.locs, Pt.cells, Pt.slots] at X' e1 e2 h1 h2 h3 st
    subst h1; subst h2; subst h3
    exact Or.inl ⟨v, (T.setVm vm₁).calling g' mk As.toArray, t, U', L, hT, X', hL, e1, e2, hq, st⟩
  · dsimp only [Pt.U, Pt.locs, Pt.cells, Pt.slots] at X' e1 e2 h1 h2 h3 st hcl
    subst h1; subst h2; subst h3
    exact Or.inr ⟨q, (T.setVm vm₁).calling g' mk As.toArray, t, U', L, E, ce, hT, X', hL, e1, e2, hq, hce, hcv, vx_cls hW₁ hcl, st⟩
end Runs
section Rows
variable {p : Program} {l : Launch} {e : Env} {R : Room} {s : State} {m : MethodId} {args : Array Value} {below : List Frame} {meth : Method} {c : Code} {H : Heap} {locs : List Loc} {cells slots : Nat} {Q : State → Prop}
variable {mc ms : Nat} {free : Addr → Prop} {A0 A1 : Nat → Prop} {H0 : Heap} {a : Array Value} {pc : Nat} {ls : Array Slot} {st0 rest : List Value}
theorem vx_keep {st₀ t T' : State} {L : List Loc} (h0 : st₀.heap = H) (e1 : T'.heap = t.heap) (hS : va_S A0 H0 H locs) (hA : ∀ q, q < H.size → A1 q → A0 q) (hf : ∀ q, free q → A0 q) (hL : ∀ q ∈ L, free q.base) (hF : va_F A1 st₀ t) :
    H.size ≤ T'.heap.size ∧ (∀ q : Nat, q < H.size → ¬ A1 q → T'.heap[q]? = H[q]?) ∧ va_S A0 H0 T'.heap (locs ++ L) := by
  obtain ⟨hz, hk⟩ := hF
  rw [h0] at hz hk
  exact ⟨by rw [e1]; exact hz, fun q h1 h2 => by rw [e1]; exact hk q h1 h2,
    ⟨Nat.le_trans hS.1 (by rw [e1]; exact hz), fun q h1 h2 => by rw [e1, hk q (Nat.lt_of_lt_of_le h1 hS.1) (fun z => h2 (hA q (Nat.lt_of_lt_of_le h1 hS.1) z))]; exact hS.2.1 q h1 h2, fun q hq => by
      rcases List.mem_append.mp hq with h | h
      · exact hS.2.2 q h
      · exact hf _ (hL q h)⟩⟩
theorem vx_calli {S SX : Type} {post : Int32 → S → Prop} {px : SX → Prop} {B : S → State → Prop} {BX : String → SX → State → Prop} {AX : Nat → Prop} (hr : vx_Run p l e R s m args below meth c H locs cells slots mc ms (F0 m pc ls st0) rest (va_Qi post B A1 a) (vx_X px BX AX) free) (hS : va_S A0 H0 H locs) (hA : ∀ q, q < H.size → A1 q → A0 q) (hf : ∀ q, free q → A0 q) (hAX : ∀ q, q < H.size → AX q → A0 q)
    (kx : ∀ (E : String) (ce : Cell) (q9 : Addr) (u : SX) (t : State) (H1 : Heap) (locs1 : List Loc), t.heap = H1 → s.vm.Alike t.vm → px u → BX E u t → H.size ≤ H1.size → (∀ q : Nat, q < H.size → ¬ AX q → H1[q]? = H[q]?) → va_S A0 H0 H1 locs1 → H1[q9]? = some ce → ce.vm = .none → s.vm.findClass E = some ce.cls → vx_W p l e R s m args below meth c H1 locs1 (cells + mc) (slots + ms) Q (F0 m pc ls rest) q9)
    (kk : ∀ (r : Int32) (u : S) (t : State) (H1 : Heap) (locs1 : List Loc), t.heap = H1 → s.vm.Alike t.vm → post r u → B u t → H.size ≤ H1.size → (∀ q : Nat, q < H.size → ¬ A1 q → H1[q]? = H[q]?) → va_S A0 H0 H1 locs1 → W p l e R s m args below meth c H1 locs1 (cells + mc) (slots + ms) Q (F0 m (pc + 3) ls (.int r :: rest))) : W p l e R s m args below meth c H locs cells slots Q (F0 m pc ls st0) := by
  intro T hT X
  rcases hr T hT X with ⟨v, st₀, t, T', L, h0, X', hL, e1, e2, ⟨⟨r, u, hv, hp, hb⟩, hF⟩, st⟩ | ⟨q, st₀, t, T', L, E, ce, h0, X', hL, e1, e2, ⟨u, hp, hb, hF⟩, hce, hcv, hcl, st⟩
  · cases hv
    obtain ⟨k1, k2, k3⟩ := vx_keep h0 e1 hS hA hf hL hF
    obtain ⟨t2, a1, b1⟩ := kk r u t T'.heap (locs ++ L) e1.symm (by rw [← e2]; exact X'.warmed.alike) hp hb k1 k2 k3 T' rfl X'
    exact ⟨t2, st t2 a1, b1⟩
  · obtain ⟨k1, k2, k3⟩ := vx_keep h0 e1 hS hAX hf hL hF
    obtain ⟨t2, a1, b1⟩ := kx E ce q u t T'.heap (locs ++ L) e1.symm (by rw [← e2]; exact X'.warmed.alike) hp hb k1 k2 k3 (by rw [e1]; exact hce) hcv hcl T' rfl X'
    exact ⟨t2, st.trans a1, b1⟩
theorem vx_calll {S SX : Type} {post : Int64 → S → Prop} {px : SX → Prop} {B : S → State → Prop} {BX : String → SX → State → Prop} {AX : Nat → Prop} (hr : vx_Run p l e R s m args below meth c H locs cells slots mc ms (F0 m pc ls st0) rest (va_Ql post B A1 a) (vx_X px BX AX) free) (hS : va_S A0 H0 H locs) (hA : ∀ q, q < H.size → A1 q → A0 q) (hf : ∀ q, free q → A0 q) (hAX : ∀ q, q < H.size → AX q → A0 q)
    (kx : ∀ (E : String) (ce : Cell) (q9 : Addr) (u : SX) (t : State) (H1 : Heap) (locs1 : List Loc), t.heap = H1 → s.vm.Alike t.vm → px u → BX E u t → H.size ≤ H1.size → (∀ q : Nat, q < H.size → ¬ AX q → H1[q]? = H[q]?) → va_S A0 H0 H1 locs1 → H1[q9]? = some ce → ce.vm = .none → s.vm.findClass E = some ce.cls → vx_W p l e R s m args below meth c H1 locs1 (cells + mc) (slots + ms) Q (F0 m pc ls rest) q9)
    (kk : ∀ (r : Int64) (u : S) (t : State) (H1 : Heap) (locs1 : List Loc), t.heap = H1 → s.vm.Alike t.vm → post r u → B u t → H.size ≤ H1.size → (∀ q : Nat, q < H.size → ¬ A1 q → H1[q]? = H[q]?) → va_S A0 H0 H1 locs1 → W p l e R s m args below meth c H1 locs1 (cells + mc) (slots + ms) Q (F0 m (pc + 3) ls (.long r :: rest))) : W p l e R s m args below meth c H locs cells slots Q (F0 m pc ls st0) := by
  intro T hT X
  rcases hr T hT X with ⟨v, st₀, t, T', L, h0, X', hL, e1, e2, ⟨⟨r, u, hv, hp, hb⟩, hF⟩, st⟩ | ⟨q, st₀, t, T', L, E, ce, h0, X', hL, e1, e2, ⟨u, hp, hb, hF⟩, hce, hcv, hcl, st⟩
  · cases hv
    obtain ⟨k1, k2, k3⟩ := vx_keep h0 e1 hS hA hf hL hF
    obtain ⟨t2, a1, b1⟩ := kk r u t T'.heap (locs ++ L) e1.symm (by rw [← e2]; exact X'.warmed.alike) hp hb k1 k2 k3 T' rfl X'
    exact ⟨t2, st t2 a1, b1⟩
  · obtain ⟨k1, k2, k3⟩ := vx_keep h0 e1 hS hAX hf hL hF
    obtain ⟨t2, a1, b1⟩ := kx E ce q u t T'.heap (locs ++ L) e1.symm (by rw [← e2]; exact X'.warmed.alike) hp hb k1 k2 k3 (by rw [e1]; exact hce) hcv hcl T' rfl X'
    exact ⟨t2, st.trans a1, b1⟩
theorem vx_callf {S SX : Type} {post : UInt32 → S → Prop} {px : SX → Prop} {B : S → State → Prop} {BX : String → SX → State → Prop} {AX : Nat → Prop} (hr : vx_Run p l e R s m args below meth c H locs cells slots mc ms (F0 m pc ls st0) rest (va_Qf post B A1 a) (vx_X px BX AX) free) (hS : va_S A0 H0 H locs) (hA : ∀ q, q < H.size → A1 q → A0 q) (hf : ∀ q, free q → A0 q) (hAX : ∀ q, q < H.size → AX q → A0 q)
    (kx : ∀ (E : String) (ce : Cell) (q9 : Addr) (u : SX) (t : State) (H1 : Heap) (locs1 : List Loc), t.heap = H1 → s.vm.Alike t.vm → px u → BX E u t → H.size ≤ H1.size → (∀ q : Nat, q < H.size → ¬ AX q → H1[q]? = H[q]?) → va_S A0 H0 H1 locs1 → H1[q9]? = some ce → ce.vm = .none → s.vm.findClass E = some ce.cls → vx_W p l e R s m args below meth c H1 locs1 (cells + mc) (slots + ms) Q (F0 m pc ls rest) q9)
    (kk : ∀ (r : UInt32) (u : S) (t : State) (H1 : Heap) (locs1 : List Loc), t.heap = H1 → s.vm.Alike t.vm → post r u → B u t → H.size ≤ H1.size → (∀ q : Nat, q < H.size → ¬ A1 q → H1[q]? = H[q]?) → va_S A0 H0 H1 locs1 → W p l e R s m args below meth c H1 locs1 (cells + mc) (slots + ms) Q (F0 m (pc + 3) ls (.float r :: rest))) : W p l e R s m args below meth c H locs cells slots Q (F0 m pc ls st0) := by
  intro T hT X
  rcases hr T hT X with ⟨v, st₀, t, T', L, h0, X', hL, e1, e2, ⟨⟨r, u, hv, hp, hb⟩, hF⟩, st⟩ | ⟨q, st₀, t, T', L, E, ce, h0, X', hL, e1, e2, ⟨u, hp, hb, hF⟩, hce, hcv, hcl, st⟩
  · cases hv
    obtain ⟨k1, k2, k3⟩ := vx_keep h0 e1 hS hA hf hL hF
    obtain ⟨t2, a1, b1⟩ := kk r u t T'.heap (locs ++ L) e1.symm (by rw [← e2]; exact X'.warmed.alike) hp hb k1 k2 k3 T' rfl X'
    exact ⟨t2, st t2 a1, b1⟩
  · obtain ⟨k1, k2, k3⟩ := vx_keep h0 e1 hS hAX hf hL hF
    obtain ⟨t2, a1, b1⟩ := kx E ce q u t T'.heap (locs ++ L) e1.symm (by rw [← e2]; exact X'.warmed.alike) hp hb k1 k2 k3 (by rw [e1]; exact hce) hcv hcl T' rfl X'
    exact ⟨t2, st.trans a1, b1⟩
theorem vx_calld {S SX : Type} {post : UInt64 → S → Prop} {px : SX → Prop} {B : S → State → Prop} {BX : String → SX → State → Prop} {AX : Nat → Prop} (hr : vx_Run p l e R s m args below meth c H locs cells slots mc ms (F0 m pc ls st0) rest (va_Qd post B A1 a) (vx_X px BX AX) free) (hS : va_S A0 H0 H locs) (hA : ∀ q, q < H.size → A1 q → A0 q) (hf : ∀ q, free q → A0 q) (hAX : ∀ q, q < H.size → AX q → A0 q)
    (kx : ∀ (E : String) (ce : Cell) (q9 : Addr) (u : SX) (t : State) (H1 : Heap) (locs1 : List Loc), t.heap = H1 → s.vm.Alike t.vm → px u → BX E u t → H.size ≤ H1.size → (∀ q : Nat, q < H.size → ¬ AX q → H1[q]? = H[q]?) → va_S A0 H0 H1 locs1 → H1[q9]? = some ce → ce.vm = .none → s.vm.findClass E = some ce.cls → vx_W p l e R s m args below meth c H1 locs1 (cells + mc) (slots + ms) Q (F0 m pc ls rest) q9)
    (kk : ∀ (r : UInt64) (u : S) (t : State) (H1 : Heap) (locs1 : List Loc), t.heap = H1 → s.vm.Alike t.vm → post r u → B u t → H.size ≤ H1.size → (∀ q : Nat, q < H.size → ¬ A1 q → H1[q]? = H[q]?) → va_S A0 H0 H1 locs1 → W p l e R s m args below meth c H1 locs1 (cells + mc) (slots + ms) Q (F0 m (pc + 3) ls (.double r :: rest))) : W p l e R s m args below meth c H locs cells slots Q (F0 m pc ls st0) := by
  intro T hT X
  rcases hr T hT X with ⟨v, st₀, t, T', L, h0, X', hL, e1, e2, ⟨⟨r, u, hv, hp, hb⟩, hF⟩, st⟩ | ⟨q, st₀, t, T', L, E, ce, h0, X', hL, e1, e2, ⟨u, hp, hb, hF⟩, hce, hcv, hcl, st⟩
  · cases hv
    obtain ⟨k1, k2, k3⟩ := vx_keep h0 e1 hS hA hf hL hF
    obtain ⟨t2, a1, b1⟩ := kk r u t T'.heap (locs ++ L) e1.symm (by rw [← e2]; exact X'.warmed.alike) hp hb k1 k2 k3 T' rfl X'
    exact ⟨t2, st t2 a1, b1⟩
  · obtain ⟨k1, k2, k3⟩ := vx_keep h0 e1 hS hAX hf hL hF
    obtain ⟨t2, a1, b1⟩ := kx E ce q u t T'.heap (locs ++ L) e1.symm (by rw [← e2]; exact X'.warmed.alike) hp hb k1 k2 k3 (by rw [e1]; exact hce) hcv hcl T' rfl X'
    exact ⟨t2, st.trans a1, b1⟩
theorem vx_callv {S SX : Type} {post : S → Prop} {px : SX → Prop} {B : S → State → Prop} {BX : String → SX → State → Prop} {AX : Nat → Prop} (hr : vx_Run p l e R s m args below meth c H locs cells slots mc ms (F0 m pc ls st0) rest (va_Qv post B A1 a) (vx_X px BX AX) free) (hS : va_S A0 H0 H locs) (hA : ∀ q, q < H.size → A1 q → A0 q) (hf : ∀ q, free q → A0 q) (hAX : ∀ q, q < H.size → AX q → A0 q)
    (kx : ∀ (E : String) (ce : Cell) (q9 : Addr) (u : SX) (t : State) (H1 : Heap) (locs1 : List Loc), t.heap = H1 → s.vm.Alike t.vm → px u → BX E u t → H.size ≤ H1.size → (∀ q : Nat, q < H.size → ¬ AX q → H1[q]? = H[q]?) → va_S A0 H0 H1 locs1 → H1[q9]? = some ce → ce.vm = .none → s.vm.findClass E = some ce.cls → vx_W p l e R s m args below meth c H1 locs1 (cells + mc) (slots + ms) Q (F0 m pc ls rest) q9)
    (kk : ∀ (u : S) (t : State) (H1 : Heap) (locs1 : List Loc), t.heap = H1 → s.vm.Alike t.vm → post u → B u t → H.size ≤ H1.size → (∀ q : Nat, q < H.size → ¬ A1 q → H1[q]? = H[q]?) → va_S A0 H0 H1 locs1 → W p l e R s m args below meth c H1 locs1 (cells + mc) (slots + ms) Q (F0 m (pc + 3) ls (rest))) : W p l e R s m args below meth c H locs cells slots Q (F0 m pc ls st0) := by
  intro T hT X
  rcases hr T hT X with ⟨v, st₀, t, T', L, h0, X', hL, e1, e2, ⟨⟨u, hv, hp, hb⟩, hF⟩, st⟩ | ⟨q, st₀, t, T', L, E, ce, h0, X', hL, e1, e2, ⟨u, hp, hb, hF⟩, hce, hcv, hcl, st⟩
  · cases hv
    obtain ⟨k1, k2, k3⟩ := vx_keep h0 e1 hS hA hf hL hF
    obtain ⟨t2, a1, b1⟩ := kk u t T'.heap (locs ++ L) e1.symm (by rw [← e2]; exact X'.warmed.alike) hp hb k1 k2 k3 T' rfl X'
    exact ⟨t2, st t2 a1, b1⟩
  · obtain ⟨k1, k2, k3⟩ := vx_keep h0 e1 hS hAX hf hL hF
    obtain ⟨t2, a1, b1⟩ := kx E ce q u t T'.heap (locs ++ L) e1.symm (by rw [← e2]; exact X'.warmed.alike) hp hb k1 k2 k3 (by rw [e1]; exact hce) hcv hcl T' rfl X'
    exact ⟨t2, st.trans a1, b1⟩
/-- caught by the row x of this method's table; the rows ahead don't take it -/
theorem vx_catch {own name : String} {E : String} {ce : Cell} {q : Addr} (hown : s.vm.findClass own = some m.cls) (pre : List ExceptionTableEntry) (x : ExceptionTableEntry) (suf : List ExceptionTableEntry) (hsplit : c.exceptionTable.toList = pre ++ x :: suf)
    (hpass : ∀ z ∈ pre, covers z pc = false ∨ (z.catchType ≠ 0 ∧ ∃ nm : String, (Cond.classLink own z.catchType nm).before args s = true ∧ va_Nc E nm s)) (hx : covers x pc = true) (h0 : x.catchType ≠ 0)
    (hlink : (Cond.classLink own x.catchType name).before args s = true) (hcast : (Cond.castable E name).before args s = true) (hcell : H[q]? = some ce) (hv : ce.vm = .none) (hcl : s.vm.findClass E = some ce.cls)
    (kk : W p l e R s m args below meth c H locs cells slots Q (F0 m x.handlerPc ls [.ref q])) : vx_W p l e R s m args below meth c H locs cells slots Q (F0 m pc ls rest) q := by
  intro T hT X
  have hpl : e.platform.magicAccessors = ({} : Platform).magicAccessors := by rw [X.admits.platform]
  obtain ⟨c3, c4, hc3, hc4, hasg⟩ := Cond.castable_spec hcast
  cases Option.some.inj (hc3.symm.trans hcl)
  obtain ⟨c5, hc5, hcl5⟩ := Cond.classLink_spec hown hlink e.platform hpl
  cases Option.some.inj (hc4.symm.trans hc5)
  obtain ⟨vm', X', st⟩ := X.thenCaughtThrough q (g := F0 m pc ls rest) rfl (Steps.refl _) (by rw [hT]; exact hcell) (by rw [hv]; rfl) (by obtain ⟨k9, h9, -⟩ := Vm.findClass_spec hcl; exact ⟨k9, h9⟩) pre x suf hsplit
    (fun z hz => by
      rcases hpass z hz with h | ⟨hz0, nm, hl1, hn1⟩
      · exact Or.inl h
      · obtain ⟨c6, hc6, hcl6⟩ := Cond.classLink_spec hown hl1 e.platform hpl
        obtain ⟨a8, b8, h1, h2, h3⟩ := hn1
        cases Option.some.inj (h1.symm.trans hcl)
        cases Option.some.inj (h2.symm.trans hc6)
        exact Or.inr ⟨hz0, _, hcl6, h3⟩) hx (Or.inr ⟨h0, c4, hcl5, hasg⟩)
  obtain ⟨t, a1, b1⟩ := kk (T.setVm vm') hT X'
  exact ⟨t, st.trans a1, b1⟩
end Rows
section Ends
variable {p : Program} {l : Launch} {e : Env} {R : Room} {s : State} {m : MethodId} {args : Array Value} {below : List Frame} {meth : Method} {c : Code} {H : Heap} {locs : List Loc} {cells slots : Nat} {Q : State → Prop}
variable {mc ms : Nat} {free : Addr → Prop} {A0 A1 : Nat → Prop} {H0 : Heap} {a : Array Value} {ls : Array Slot} {st0 rest : List Value}
variable {Qc : Array Value → State → Outcome → State → Prop} {XC : String → State → State → Prop}
/-- what a body that may throw owes at its end -/
def vx_MQ (below : List Frame) (Qc : Array Value → State → Outcome → State → Prop) (XC : String → State → State → Prop) (a : Array Value) (s : State) (mc ms : Nat) (free : Addr → Prop) : State → Prop := fun t =>
  ∃ o, t.status = .running ∧ Ended t below o ∧ vx_Q Qc XC mc ms free a s o t
theorem vx_ret {g : JFrame} {mc ms : Nat} (k : W p l e R s m args below meth c H locs cells slots (MQ below Qc args s mc ms free) g) : W p l e R s m args below meth c H locs cells slots (vx_MQ below Qc XC args s mc ms free) g := by
  intro T hT X
  obtain ⟨t, a1, o, b1, b2, b3, b4⟩ := k T hT X
  exact ⟨t, a1, o, b1, b2, Or.inl ⟨b3, b4⟩⟩
/-- not caught here: it goes on to the caller -/
theorem vx_widen {g : JFrame} {q : Addr} {k n : Nat} (h1 : cells ≤ k) (h2 : slots ≤ n) (kk : vx_W p l e R s m args below meth c H locs k n Q g q) : vx_W p l e R s m args below meth c H locs cells slots Q g q := fun T hT X => kk T hT (stand_widen X h1 h2)
theorem vx_out {pc : Nat} {E : String} {ce : Cell} {q : Addr} {mc ms : Nat} (hout : ∀ x ∈ c.exceptionTable.toList, covers x pc = false) (hlocks : meth.locks = false) (hcell : H[q]? = some ce) (hv : ce.vm = .none) (hcl : s.vm.findClass E = some ce.cls)
    (hx : ∀ t : State, t.heap = H → s.vm.Alike t.vm → XC E s t) (hf : ∀ z ∈ locs, free z.base) (hc : cells ≤ mc) (hs : slots ≤ ms) :
    vx_W p l e R s m args below meth c H locs cells slots (vx_MQ below Qc XC args s mc ms free) (F0 m pc ls rest) q := by
  intro T hT X
  obtain ⟨st1, hrun, hend, hW, hsm⟩ := X.leaveThrown q (g := F0 m pc ls rest) rfl rfl rfl hout hlocks
  have hcell9 : (T.setFrames (.throwing q :: below)).heap[q]? = some ce := by
    show T.heap[q]? = some ce
    rw [hT]; exact hcell
  exact ⟨_, st1, .threw q, hrun, hend, Or.inr ⟨q, rfl, E, ce, locs, hx _ hT hW.alike, hcell9, hv, hcl, hW, hsm.mono hc hs, hf⟩⟩
theorem vx_frame {U : State} {k n : Nat} (h : s.sameButNew ({ U with vm := s.vm } : State) locs k n) : s.heap.size ≤ U.heap.size ∧ ∀ q : Nat, q < s.heap.size → (∀ z ∈ locs, z.base ≠ q) → U.heap[q]? = s.heap[q]? := by
  obtain ⟨-, h2, -, -, -, h6⟩ := h
  refine ⟨h2, fun q hq hz => ?_⟩
  obtain ⟨c9, e1, e2, e3, e4⟩ := h6 q _ (Array.getElem?_eq_getElem hq)
  have hs : c9.slots = (s.heap[q]).slots := Array.ext_getElem? fun i => e4 i fun hm => hz _ hm rfl
  have h9 : c9 = s.heap[q] := by
    rw [hs] at e2
    exact e2
  have e5 : U.heap[q]? = some c9 := e1
  rw [e5, h9, Array.getElem?_eq_getElem hq]
/-- the words of a throw but the four that speak of the heap -/
def vx_no (w : Cond) : Bool := decide (w ≠ .isRef (.static Bundle.tN "UNASSIGNED_STACK" Bundle.steD)) && decide (w ≠ .isRef (.static Bundle.tN "SUPPRESSED_SENTINEL" Bundle.listD)) && decide (w ≠ .laysStatic Bundle.tN "UNASSIGNED_STACK" Bundle.steD) && decide (w ≠ .laysStatic Bundle.tN "SUPPRESSED_SENTINEL" Bundle.listD)
def vx_at0 (own : String) (ic : Nat) (X : String) (names : List String) : List Cond := (Bundle.ownAtoms0 own ic X names).filter vx_no
def vx_atS (own : String) (ic : Nat) (X : String) (names : List String) : List Cond := (Bundle.ownAtoms own ic X names).filter vx_no
/-- a word that the tables alone decide, or a good one -/
def vx_ot (w : Cond) : Bool := w.onTables || goodWord w
theorem vx_ot_at {args a' : Array Value} {s U : State} {w : Cond} (hW : s.WarmedH U.vm) (hvm : s.vm = U.vm) (hg : vx_ot w = true) (h : w.before args s = true) : w.before a' U = true := by
  simp only [vx_ot, Bool.or_eq_true] at hg
  rcases hg with hg | hg
  · exact va_tabs hg hvm h
  · exact word_at hW (good_of_word hg) h
/-- a list's words: the good ones out of the method's own list, the others by premises of their own -/
theorem vx_hat {args : Array Value} {s : State} {L B : List Cond} (h1 : ∀ w ∈ L.filter goodWord, w.before args s = true) (h2 : ∀ w ∈ L.filter (fun w => !goodWord w), w ∈ B) (h3 : ∀ w ∈ B, w.before args s = true) : ∀ w ∈ L, w.before args s = true := by
  intro w hw
  by_cases g : goodWord w = true
  · exact h1 w (List.mem_filter.mpr ⟨hw, g⟩)
  · refine h3 w (h2 w (List.mem_filter.mpr ⟨hw, ?_⟩))
    show (!goodWord w) = true
    cases hgw : goodWord w
    · rfl
    · exact absurd hgw g
theorem vx_c {args : Array Value} {s : State} {w : Cond} {B : List Cond} (h : w.before args s = true) (t : ∀ w ∈ B, w.before args s = true) : ∀ w' ∈ w :: B, w'.before args s = true := fun w' h' => (List.mem_cons.mp h').elim (fun e => by rw [e]; exact h) (t w')
theorem vx_n {args : Array Value} {s : State} : ∀ w ∈ ([] : List Cond), w.before args s = true := fun _ h => nomatch h
theorem vx_own {args : Array Value} {s : State} {L : List Cond} (h1 : ∀ w ∈ L.filter vx_no, w.before args s = true)
    (hU : (Cond.isRef (.static Bundle.tN "UNASSIGNED_STACK" Bundle.steD)).before args s = true) (hN : (Cond.isRef (.static Bundle.tN "SUPPRESSED_SENTINEL" Bundle.listD)).before args s = true)
    (lU : (Cond.laysStatic Bundle.tN "UNASSIGNED_STACK" Bundle.steD).before args s = true) (lN : (Cond.laysStatic Bundle.tN "SUPPRESSED_SENTINEL" Bundle.listD).before args s = true) : ∀ w ∈ L, w.before args s = true := by
  intro w hw
  by_cases e1 : w = .isRef (.static Bundle.tN "UNASSIGNED_STACK" Bundle.steD)
  · rw [e1]; exact hU
  · by_cases e2 : w = .isRef (.static Bundle.tN "SUPPRESSED_SENTINEL" Bundle.listD)
    · rw [e2]; exact hN
    · by_cases e3 : w = .laysStatic Bundle.tN "UNASSIGNED_STACK" Bundle.steD
      · rw [e3]; exact lU
      · by_cases e4 : w = .laysStatic Bundle.tN "SUPPRESSED_SENTINEL" Bundle.listD
        · rw [e4]; exact lN
        · exact h1 w (List.mem_filter.mpr ⟨hw, by unfold vx_no; rw [decide_eq_true e1, decide_eq_true e2, decide_eq_true e3, decide_eq_true e4]; rfl⟩)
/-- where a static field lies, its class's statics cell in H -/
def vx_L (C n d : String) (A : Nat → Prop) (U : State) (H : Heap) : Prop := ∃ (c : ClassId) (k : Class) (i : Nat) (f : Field) (a : Nat) (cell : Cell), U.vm.findClass C = some c ∧ U.fieldFound? C n d = some (c, k, i, f) ∧ f.isStatic = true ∧ k.statics = some a ∧ H[a]? = some cell ∧ cell.vm.isStatics = true ∧ cell.cls = c ∧ f.slot < cell.slots.size ∧ k.staticTypes[f.slot]? = some f.type ∧ ¬ A a
theorem vx_L.moved {C n d : String} {A : Nat → Prop} {u U : State} {H : Heap} (hvm : u.vm.Alike U.vm) (h : vx_L C n d A u H) : vx_L C n d A U H := by
  obtain ⟨c, k, i, f, a, cell, h1, h2, h3, h4, h5, h6, h7, h8, h9, h10⟩ := h
  obtain ⟨k', hi', he⟩ := State.fieldFound?_setVm hvm h2
  exact ⟨c, k', i, f, a, cell, by rw [hvm.findClass]; exact h1, hi', h3, by rw [he]; exact h4, h5, h6, h7, h8, by rw [he]; exact h9, h10⟩
theorem vx_L.kept {C n d : String} {A : Nat → Prop} {U : State} {H H1 : Heap} (h : vx_L C n d A U H) (hq : ∀ a : Nat, a < H.size → ¬ A a → H1[a]? = H[a]?) : vx_L C n d A U H1 := by
  obtain ⟨c, k, i, f, a, cell, h1, h2, h3, h4, h5, h6, h7, h8, h9, h10⟩ := h
  exact ⟨c, k, i, f, a, cell, h1, h2, h3, h4, by rw [hq a (Array.getElem?_eq_some_iff.mp h5).1 h10]; exact h5, h6, h7, h8, h9, h10⟩
theorem vx_L.narrow {C n d : String} {A B : Nat → Prop} {U : State} {H : Heap} (h : vx_L C n d A U H) (hAB : ∀ q, B q → A q) : vx_L C n d B U H := by
  obtain ⟨c, k, i, f, a, cell, h1, h2, h3, h4, h5, h6, h7, h8, h9, h10⟩ := h
  exact ⟨c, k, i, f, a, cell, h1, h2, h3, h4, h5, h6, h7, h8, h9, fun z => h10 (hAB _ z)⟩
theorem vx_L.word {C n d : String} {A : Nat → Prop} {s : State} {args : Array Value} (h : vx_L C n d A s s.heap) : (Cond.laysStatic C n d).before args s = true := by
  obtain ⟨c, k, i, f, a, cell, h1, h2, h3, h4, h5, h6, h7, h8, h9, -⟩ := h
  show (Cond.laysStatic C n d).holds args s none s [] = true
  exact Cond.laysStatic_of h1 h2 h3 h4 h5 h6 h7 h8 h9
/-- .. and what it holds: null or some reference -/
def vx_Zq (C n d : String) (A : Nat → Prop) (U : State) (H : Heap) : Prop := va_Zq C n d A U H ∧ vx_L C n d A U H
theorem vx_Zq.moved {C n d : String} {A : Nat → Prop} {u U : State} {H : Heap} (hvm : u.vm.Alike U.vm) (h : vx_Zq C n d A u H) : vx_Zq C n d A U H := ⟨va_Zq.moved hvm h.1, vx_L.moved hvm h.2⟩
theorem vx_Zq.kept {C n d : String} {A : Nat → Prop} {U : State} {H H1 : Heap} (h : vx_Zq C n d A U H) (hq : ∀ a : Nat, a < H.size → ¬ A a → H1[a]? = H[a]?) : vx_Zq C n d A U H1 := ⟨va_Zq.kept h.1 hq, vx_L.kept h.2 hq⟩
theorem vx_Zq.narrow {C n d : String} {A B : Nat → Prop} {U : State} {H : Heap} (h : vx_Zq C n d A U H) (hAB : ∀ q, B q → A q) : vx_Zq C n d B U H := ⟨va_Zq.narrow h.1 hAB, vx_L.narrow h.2 hAB⟩
theorem vx_Zqof {args : Array Value} {s : State} {C n d : String} {A : Nat → Prop} (hl : (Cond.laysStatic C n d).before args s = true) (hini : (Cond.initialized C).before args s = true) (h : (Cond.isRef (.static C n d)).before args s = true) (hA : ∀ a : Nat, a < s.heap.size → ¬ A a) : vx_Zq C n d A s s.heap := by
  refine ⟨va_Zqof hl hini h hA, ?_⟩
  obtain ⟨c, k, i, f, a, cell, h1, h2, h3, h4, h5, h6, h7, h8, h9⟩ := Cond.laysStatic_spec hl
  exact ⟨c, k, i, f, a, cell, h1, h2, h3, h4, h5, h6, h7, h8, h9, hA a (Array.getElem?_eq_some_iff.mp h5).1⟩
theorem vx_isRef {C n d : String} {v : Value} {A : Nat → Prop} {s : State} {args : Array Value} (h : va_Z C n d v A s s.heap) (hv : v.isRef = true) : (Cond.isRef (.static C n d)).before args s = true := by
  obtain ⟨cf, kf, fi, f, a, cell, h1, h2, h3, h4, h5, h6, h7, -⟩ := h
  have he : (Term.static C n d).eval args s none [] s = some v := by
    simp [Term.eval, State.fieldNamed?, h1, h2, h4, h5, h6, h7]
  simp only [Cond.before, Cond.holds, Cond.value, he]
  cases v <;> simp_all [Value.isRef]
theorem vx_isRefq {C n d : String} {A : Nat → Prop} {s : State} {args : Array Value} (h : va_Zq C n d A s s.heap) : (Cond.isRef (.static C n d)).before args s = true := by
  rcases h with h | ⟨t, h⟩
  · exact vx_isRef h rfl
  · exact vx_isRef h rfl
/-- the same frame, seen from here: as if the method were called anew in this heap -/
theorem vx_rebase {T : State} (X : Stand p l e R s m args below meth c T locs cells slots) {R' : Room} (hf : R'.frames ≤ R.frames) (hl : R'.locals ≤ R.locals) (hc : cells + R'.cells ≤ R.cells) (hs : slots + R'.slots ≤ R.slots) :
    Stand p l e R' ((T.setVm s.vm).setFrames (.invoking m args :: below)) m args below meth c T [] 0 0 := by
  have htop : (T.setVm s.vm).topJava?.isSome := X.here.top
  have hF : ((T.setVm s.vm).setFrames (.invoking m args :: below)).frames = .invoking m args :: below := State.frames_setFrames _ (State.cur_lt_of_top htop)
  obtain ⟨g₀, hg0⟩ := Option.isSome_iff_exists.mp htop
  obtain ⟨r, hr⟩ := State.topJava?_eq_some.mp hg0
  have hl9 : e.platform.stackLimits (T.setVm s.vm).me = e.platform.stackLimits s.me := X.limits
  have hb9 : (T.setVm s.vm).me.stackBytes = s.me.stackBytes := X.bytes
  refine ⟨X.admits, X.cas, X.clock, hF, ?_, X.hears, X.method, X.code, X.here, X.tail, X.warmed, ?_, ?_, ?_⟩
  · have h := X.room
    have hU : ((T.setVm s.vm).setFrames (.invoking m args :: below)).localsInUse = s.localsInUse := by
      rw [State.localsInUse_invoking hF (meth := meth) (c := c) X.method X.code, State.localsInUse_invoking X.frames X.method X.code]
    simp only [State.hasRoom, Bool.and_eq_true, decide_eq_true_eq] at h ⊢
    obtain ⟨⟨⟨⟨h1, h2, h3, h4, h5, h6⟩, h7⟩, h8⟩, h9⟩ := h
    rw [X.frames, List.length_cons] at h2 h3
    have q1 := X.heapSize
    have q2 := X.used
    simp only [hF, hU, List.length_cons, State.stackLimits_setFrames, State.stackBytes_setFrames, hl9, hb9]
    refine ⟨⟨⟨⟨by omega, by omega, by omega, by omega, by omega, h6⟩, ?_⟩, ?_⟩, X.book⟩
    · show T.heap.size + R'.cells ≤ e.platform.maxCells
      omega
    · show T.slotsUsed + R'.slots ≤ e.platform.maxSlots
      omega
  · rw [State.stackLimits_setFrames]; rfl
  · rw [State.stackBytes_setFrames]; rfl
  · refine ⟨?_, Nat.le_refl _, Nat.le_refl _, ?_, ?_, fun a c9 h9 => ⟨c9, h9, rfl, rfl, fun _ _ => rfl⟩⟩
    · obtain ⟨t, ht, -⟩ := State.frames_cons hr
      show T.setVm s.vm = { ((T.setVm s.vm).setFrames (.invoking m args :: below)).setFrames (T.setVm s.vm).frames with heap := T.heap, slotsUsed := T.slotsUsed }
      rw [State.setFrames_setFrames, State.setFrames_self ht]
      rfl
    · show T.slotsUsed = T.slotsUsed + ((T.heap.toList.drop T.heap.size).map (·.slots.size)).sum
      rw [List.drop_eq_nil_of_le (Nat.le_of_eq Array.length_toList)]
      rfl
    · show ((T.heap.toList.drop T.heap.size).map (·.slots.size)).sum ≤ 0
      rw [List.drop_eq_nil_of_le (Nat.le_of_eq Array.length_toList)]
      exact Nat.le_refl _
/-- 'throw new E()': new; dup; invokespecial; athrow -/
theorem vx_throw0 {cc : ByteArray} {pc : Nat} (hexec : p.tables.exec = Jvm.exec) (hb : c.code = cc) (hl : l.stackTraces = false) {own cls : String} {names : List String} {ik ic mc ms : Nat} {A : Nat → Prop}
    (hown : s.vm.findClass own = some m.cls) (hcls : Bundle.fit cls = true) (hnames : ∀ n ∈ names, Bundle.fit n = true)
    (hk : (Cond.classLink own ik cls).before args s = true) (hini : (Cond.initialized cls).before args s = true) (hat : ∀ w ∈ vx_at0 own ic cls names, w.before args s = true)
    (hgood : ∀ w ∈ Cond.classLink own ik cls :: Cond.initialized cls :: vx_at0 own ic cls names, vx_ot w = true)
    (hU : vx_Zq Bundle.tN "UNASSIGNED_STACK" Bundle.steD A s s.heap) (hN : vx_Zq Bundle.tN "SUPPRESSED_SENTINEL" Bundle.listD A s s.heap) (hS : va_S A s.heap H locs) (hsize : ls.size = c.maxLocals)
    (d0 : decode cc pc = .ok (.new ik, 3)) (d3 : decode cc (pc + 3) = .ok (.dup, 1)) (d4 : decode cc (pc + 4) = .ok (.invokespecial ic, 3)) (d7 : decode cc (pc + 7) = .ok (.athrow, 1))
    (hout : ∀ x ∈ c.exceptionTable.toList, covers x (pc + 7) = false)
    (hRframes : names.length + 3 < R.frames) (hRlocals : (rest.map fun v => v.category).sum + (13 * (names.length + 1) + 42) ≤ R.locals) (hRcells : cells + 1 ≤ R.cells) (hRslots : slots + 6 ≤ R.slots) (hlocks : meth.locks = false)
    (hx : ∀ t : State, s.vm.Alike t.vm → H.size ≤ t.heap.size → (∀ q : Nat, q < H.size → t.heap[q]? = H[q]?) → XC cls s t)
    (hf : ∀ z ∈ locs, free z.base) (hc : cells + 1 ≤ mc) (hs : slots + 6 ≤ ms) :
    W p l e R s m args below meth c H locs cells slots (vx_MQ below Qc XC args s mc ms free) (F0 m pc ls rest) := by
  intro T hT X
  have htr : e.platform.stackTraces = false := (show e.platform.stackTraces = l.stackTraces by rw [X.admits.platform]).trans hl
  have Y := vx_rebase X (R' := { frames := R.frames, locals := R.locals, cells := 1, slots := 6 }) (Nat.le_refl _) (Nat.le_refl _) hRcells hRslots
  obtain ⟨s', hA⟩ : ∃ z, z = (T.setVm s.vm).setFrames (.invoking m args :: below) := ⟨_, rfl⟩
  rw [← hA] at Y
  have hvm : s'.vm = s.vm := by rw [hA]; rfl
  have hhp : s'.heap = H := by rw [hA]; exact hT
  have hW0 : s.WarmedH s'.vm := by rw [hvm]; exact State.WarmedH.refl s
  have hat' : ∀ w ∈ vx_at0 own ic cls names, w.before args s' = true := fun w hw => vx_ot_at hW0 hvm.symm (hgood w (List.mem_cons_of_mem _ (List.mem_cons_of_mem _ hw))) (hat w hw)
  have hk' : (Cond.classLink own ik cls).before args s' = true := vx_ot_at hW0 hvm.symm (hgood _ List.mem_cons_self) hk
  have hini' : (Cond.initialized cls).before args s' = true := vx_ot_at hW0 hvm.symm (hgood _ (List.mem_cons_of_mem _ List.mem_cons_self)) hini
  have hU' : vx_Zq Bundle.tN "UNASSIGNED_STACK" Bundle.steD A s' s'.heap := by rw [hhp]; exact vx_Zq.moved hW0.alike (hU.kept hS.2.1)
  have hN' : vx_Zq Bundle.tN "SUPPRESSED_SENTINEL" Bundle.listD A s' s'.heap := by rw [hhp]; exact vx_Zq.moved hW0.alike (hN.kept hS.2.1)
  have h : ∀ w ∈ Bundle.ownAtoms0 own ic cls names, w.before args s' = true := vx_own hat' (vx_isRefq hU'.1) (vx_isRefq hN'.1) hU'.2.word hN'.2.word
  have hown' : s'.vm.findClass own = some m.cls := by rw [hvm]; exact hown
  have hins : (Cond.instantiable cls 6).before args s' = true := h _ (by simp [Bundle.ownAtoms0])
  obtain ⟨vm₁, cX, kX, hfX, hkX, -, -, X₁, st1⟩ := Y.newCold hexec (own := own) (C := cls) (index := ik) (n := 6) hown' hk' hins hini'
    (g := F0 m pc ls rest) rfl (by rw [hb]; exact d0) (Nat.le_refl _) (Nat.le_refl _)
  generalize hT1 : (T.setVm vm₁).pushCell { cls := cX, slots := kX.instanceTypes.map defaultValue, vm := .none } = T1 at X₁ st1
  have hcat : (Value.ref T.heap.size).category = 1 := rfl
  have hcellA : T1.heap[T.heap.size]? = some (freshCell cX kX) := by rw [← hT1]; exact State.heap_pushCell_size _ _
  have d3' : decode c.code (pc + 3) = .ok (.dup, 1) := by rw [hb]; exact d3
  obtain ⟨U, hsteps, hrun, hend, hW, hsame, ce, hce, hO⟩ := X₁.ctorThrow0 hexec htr (own := own) (cls := cls) (names := names) (ic := ic) hown' hcls hnames h (fun x hx => nomatch hx) hfX hkX hcellA (by rw [hhp, hT]; exact Nat.le_refl _)
    (g := { method := m, pc := pc + 4, locals := ls, stack := .ref T.heap.size :: .ref T.heap.size :: rest, locked := none }) rfl hsize rfl rfl (rest := rest) rfl
    (by rw [hb]; exact d4) (by rw [hb]; exact d7) hout hRframes (by simp only [List.map_cons, List.sum_cons, hcat]; omega) hlocks
  obtain ⟨f1, f2⟩ := vx_frame hsame
  rw [hhp] at f1 f2
  have hWs : s.WarmedH U.vm := State.WarmedH.trans hW0 hW
  have hcl : s.vm.findClass cls = some ce.cls := by
    have h9 := hO.cls
    rw [hvm] at h9
    exact h9
  have hall : s.sameButNew ({ U with vm := s.vm } : State) locs mc ms := by
    subst hA
    obtain ⟨e1, e2⟩ := hsame
    rw [State.setFrames_setFrames] at e1
    have h2 : (T.setVm s.vm).sameButNew ({ U with vm := s.vm } : State) [] (0 + 1) (0 + 6) := ⟨e1, e2⟩
    have h3 := X.same.trans h2
    rw [List.append_nil] at h3
    exact h3.mono hc hs
  refine ⟨U, ?_, .threw T.heap.size, hrun, hend, Or.inr ⟨T.heap.size, rfl, cls, ce, locs, hx U hWs.alike f1 (fun q hq => f2 q hq (fun z hz => nomatch hz)), hce, hO.vm, hcl, hWs, hall, hf⟩⟩
  refine st1 _ ?_
  show Steps p.tables e below (T1.setTop { method := m, pc := pc + 3, locals := ls, stack := .ref T.heap.size :: rest, locked := none }) _
  jvm_step X₁.here [X₁.here.top, hexec, d3', Value.category]
  exact hsteps
/-- 'throw new E("text")': new; dup; ldc; invokespecial; athrow -/
theorem vx_throwS {cc : ByteArray} {pc : Nat} (hexec : p.tables.exec = Jvm.exec) (hb : c.code = cc) (hl : l.stackTraces = false) {own cls text : String} {names : List String} {ik is ic mc ms sa : Nat} {A : Nat → Prop}
    (hown : s.vm.findClass own = some m.cls) (hcls : Bundle.fit cls = true) (hnames : ∀ n ∈ names, Bundle.fit n = true)
    (hk : (Cond.classLink own ik cls).before args s = true) (hini : (Cond.initialized cls).before args s = true) (hstr : vk_R own is text sa s) (hat : ∀ w ∈ vx_atS own ic cls names, w.before args s = true)
    (hgood : ∀ w ∈ Cond.classLink own ik cls :: Cond.initialized cls :: vx_atS own ic cls names, vx_ot w = true)
    (hU : vx_Zq Bundle.tN "UNASSIGNED_STACK" Bundle.steD A s s.heap) (hN : vx_Zq Bundle.tN "SUPPRESSED_SENTINEL" Bundle.listD A s s.heap) (hS : va_S A s.heap H locs) (hsize : ls.size = c.maxLocals)
    (d0 : decode cc pc = .ok (.new ik, 3)) (d3 : decode cc (pc + 3) = .ok (.dup, 1)) (d4 : decode cc (pc + 4) = .ok (.ldc is, 2)) (d6 : decode cc (pc + 6) = .ok (.invokespecial ic, 3)) (d9 : decode cc (pc + 9) = .ok (.athrow, 1))
    (hout : ∀ x ∈ c.exceptionTable.toList, covers x (pc + 9) = false)
    (hRframes : names.length + 3 < R.frames) (hRlocals : (rest.map fun v => v.category).sum + (13 * (names.length + 1) + 43) ≤ R.locals) (hRcells : cells + 1 ≤ R.cells) (hRslots : slots + 6 ≤ R.slots) (hlocks : meth.locks = false)
    (hx : ∀ t : State, s.vm.Alike t.vm → H.size ≤ t.heap.size → (∀ q : Nat, q < H.size → t.heap[q]? = H[q]?) → XC cls s t)
    (hf : ∀ z ∈ locs, free z.base) (hc : cells + 1 ≤ mc) (hs : slots + 6 ≤ ms) :
    W p l e R s m args below meth c H locs cells slots (vx_MQ below Qc XC args s mc ms free) (F0 m pc ls rest) := by
  intro T hT X
  have htr : e.platform.stackTraces = false := (show e.platform.stackTraces = l.stackTraces by rw [X.admits.platform]).trans hl
  have Y := vx_rebase X (R' := { frames := R.frames, locals := R.locals, cells := 1, slots := 6 }) (Nat.le_refl _) (Nat.le_refl _) hRcells hRslots
  obtain ⟨s', hA⟩ : ∃ z, z = (T.setVm s.vm).setFrames (.invoking m args :: below) := ⟨_, rfl⟩
  rw [← hA] at Y
  have hvm : s'.vm = s.vm := by rw [hA]; rfl
  have hhp : s'.heap = H := by rw [hA]; exact hT
  have hW0 : s.WarmedH s'.vm := by rw [hvm]; exact State.WarmedH.refl s
  have hat' : ∀ w ∈ vx_atS own ic cls names, w.before args s' = true := fun w hw => vx_ot_at hW0 hvm.symm (hgood w (List.mem_cons_of_mem _ (List.mem_cons_of_mem _ hw))) (hat w hw)
  have hk' : (Cond.classLink own ik cls).before args s' = true := vx_ot_at hW0 hvm.symm (hgood _ List.mem_cons_self) hk
  have hini' : (Cond.initialized cls).before args s' = true := vx_ot_at hW0 hvm.symm (hgood _ (List.mem_cons_of_mem _ List.mem_cons_self)) hini
  have hU' : vx_Zq Bundle.tN "UNASSIGNED_STACK" Bundle.steD A s' s'.heap := by rw [hhp]; exact vx_Zq.moved hW0.alike (hU.kept hS.2.1)
  have hN' : vx_Zq Bundle.tN "SUPPRESSED_SENTINEL" Bundle.listD A s' s'.heap := by rw [hhp]; exact vx_Zq.moved hW0.alike (hN.kept hS.2.1)
  have h : ∀ w ∈ Bundle.ownAtoms own ic cls names, w.before args s' = true := vx_own hat' (vx_isRefq hU'.1) (vx_isRefq hN'.1) hU'.2.word hN'.2.word
  have hown' : s'.vm.findClass own = some m.cls := by rw [hvm]; exact hown
  have hins : (Cond.instantiable cls 6).before args s' = true := h _ (by simp [Bundle.ownAtoms])
  obtain ⟨vm₁, cX, kX, hfX, hkX, -, -, X₁, st1⟩ := Y.newCold hexec (own := own) (C := cls) (index := ik) (n := 6) hown' hk' hins hini'
    (g := F0 m pc ls rest) rfl (by rw [hb]; exact d0) (Nat.le_refl _) (Nat.le_refl _)
  generalize hT1 : (T.setVm vm₁).pushCell { cls := cX, slots := kX.instanceTypes.map defaultValue, vm := .none } = T1 at X₁ st1
  have hcat : (Value.ref T.heap.size).category = 1 := rfl
  have hcellA : T1.heap[T.heap.size]? = some (freshCell cX kX) := by rw [← hT1]; exact State.heap_pushCell_size _ _
  have d3' : decode c.code (pc + 3) = .ok (.dup, 1) := by rw [hb]; exact d3
  have d4' : decode c.code (pc + 4) = .ok (.ldc is, 2) := by rw [hb]; exact d4
  have hstr' : vk_R own is text sa s' := vk_R.warm hW0 hstr
  obtain ⟨U, hsteps, hrun, hend, hW, hsame, ce, hce, hO⟩ := X₁.ctorThrowS hexec htr (own := own) (cls := cls) (names := names) (ic := ic) hown' hcls hnames h (fun x hx => nomatch hx) hfX hkX hcellA (by rw [hhp, hT]; exact Nat.le_refl _) (msg := .ref sa) rfl
    (g := { method := m, pc := pc + 6, locals := ls, stack := .ref sa :: .ref T.heap.size :: .ref T.heap.size :: rest, locked := none }) rfl hsize rfl rfl (rest := rest) rfl
    (by rw [hb]; exact d6) (by rw [hb]; exact d9) hout hRframes (by simp only [List.map_cons, List.sum_cons, hcat]; omega) hlocks
  obtain ⟨f1, f2⟩ := vx_frame hsame
  rw [hhp] at f1 f2
  have hWs : s.WarmedH U.vm := State.WarmedH.trans hW0 hW
  have hcl : s.vm.findClass cls = some ce.cls := by
    have h9 := hO.cls
    rw [hvm] at h9
    exact h9
  have hall : s.sameButNew ({ U with vm := s.vm } : State) locs mc ms := by
    subst hA
    obtain ⟨e1, e2⟩ := hsame
    rw [State.setFrames_setFrames] at e1
    have h2 : (T.setVm s.vm).sameButNew ({ U with vm := s.vm } : State) [] (0 + 1) (0 + 6) := ⟨e1, e2⟩
    have h3 := X.same.trans h2
    rw [List.append_nil] at h3
    exact h3.mono hc hs
  refine ⟨U, ?_, .threw T.heap.size, hrun, hend, Or.inr ⟨T.heap.size, rfl, cls, ce, locs, hx U hWs.alike f1 (fun q hq => f2 q hq (fun z hz => nomatch hz)), hce, hO.vm, hcl, hWs, hall, hf⟩⟩
  refine st1 _ ?_
  show Steps p.tables e below (T1.setTop { method := m, pc := pc + 3, locals := ls, stack := .ref T.heap.size :: rest, locked := none }) _
  jvm_step X₁.here [X₁.here.top, hexec, d3', Value.category]
  exact X₁.ldcString hexec (own := own) (text := text) (index := is) (a := sa) hown' hstr'.1 hstr'.2
    (g := { method := m, pc := pc + 4, locals := ls, stack := .ref T.heap.size :: .ref T.heap.size :: rest, locked := none }) rfl d4' _ hsteps
/-- 'throw new E("text")', the text by a wide index -/
theorem vx_throwSW {cc : ByteArray} {pc : Nat} (hexec : p.tables.exec = Jvm.exec) (hb : c.code = cc) (hl : l.stackTraces = false) {own cls text : String} {names : List String} {ik is ic mc ms sa : Nat} {A : Nat → Prop}
    (hown : s.vm.findClass own = some m.cls) (hcls : Bundle.fit cls = true) (hnames : ∀ n ∈ names, Bundle.fit n = true)
    (hk : (Cond.classLink own ik cls).before args s = true) (hini : (Cond.initialized cls).before args s = true) (hstr : vk_R own is text sa s) (hat : ∀ w ∈ vx_atS own ic cls names, w.before args s = true)
    (hgood : ∀ w ∈ Cond.classLink own ik cls :: Cond.initialized cls :: vx_atS own ic cls names, vx_ot w = true)
    (hU : vx_Zq Bundle.tN "UNASSIGNED_STACK" Bundle.steD A s s.heap) (hN : vx_Zq Bundle.tN "SUPPRESSED_SENTINEL" Bundle.listD A s s.heap) (hS : va_S A s.heap H locs) (hsize : ls.size = c.maxLocals)
    (d0 : decode cc pc = .ok (.new ik, 3)) (d3 : decode cc (pc + 3) = .ok (.dup, 1)) (d4 : decode cc (pc + 4) = .ok (.ldc_w is, 3)) (d7 : decode cc (pc + 7) = .ok (.invokespecial ic, 3)) (d10 : decode cc (pc + 10) = .ok (.athrow, 1))
    (hout : ∀ x ∈ c.exceptionTable.toList, covers x (pc + 10) = false)
    (hRframes : names.length + 3 < R.frames) (hRlocals : (rest.map fun v => v.category).sum + (13 * (names.length + 1) + 43) ≤ R.locals) (hRcells : cells + 1 ≤ R.cells) (hRslots : slots + 6 ≤ R.slots) (hlocks : meth.locks = false)
    (hx : ∀ t : State, s.vm.Alike t.vm → H.size ≤ t.heap.size → (∀ q : Nat, q < H.size → t.heap[q]? = H[q]?) → XC cls s t)
    (hf : ∀ z ∈ locs, free z.base) (hc : cells + 1 ≤ mc) (hs : slots + 6 ≤ ms) :
    W p l e R s m args below meth c H locs cells slots (vx_MQ below Qc XC args s mc ms free) (F0 m pc ls rest) := by
  intro T hT X
  have htr : e.platform.stackTraces = false := (show e.platform.stackTraces = l.stackTraces by rw [X.admits.platform]).trans hl
  have Y := vx_rebase X (R' := { frames := R.frames, locals := R.locals, cells := 1, slots := 6 }) (Nat.le_refl _) (Nat.le_refl _) hRcells hRslots
  obtain ⟨s', hA⟩ : ∃ z, z = (T.setVm s.vm).setFrames (.invoking m args :: below) := ⟨_, rfl⟩
  rw [← hA] at Y
  have hvm : s'.vm = s.vm := by rw [hA]; rfl
  have hhp : s'.heap = H := by rw [hA]; exact hT
  have hW0 : s.WarmedH s'.vm := by rw [hvm]; exact State.WarmedH.refl s
  have hat' : ∀ w ∈ vx_atS own ic cls names, w.before args s' = true := fun w hw => vx_ot_at hW0 hvm.symm (hgood w (List.mem_cons_of_mem _ (List.mem_cons_of_mem _ hw))) (hat w hw)
  have hk' : (Cond.classLink own ik cls).before args s' = true := vx_ot_at hW0 hvm.symm (hgood _ List.mem_cons_self) hk
  have hini' : (Cond.initialized cls).before args s' = true := vx_ot_at hW0 hvm.symm (hgood _ (List.mem_cons_of_mem _ List.mem_cons_self)) hini
  have hU' : vx_Zq Bundle.tN "UNASSIGNED_STACK" Bundle.steD A s' s'.heap := by rw [hhp]; exact vx_Zq.moved hW0.alike (hU.kept hS.2.1)
  have hN' : vx_Zq Bundle.tN "SUPPRESSED_SENTINEL" Bundle.listD A s' s'.heap := by rw [hhp]; exact vx_Zq.moved hW0.alike (hN.kept hS.2.1)
  have h : ∀ w ∈ Bundle.ownAtoms own ic cls names, w.before args s' = true := vx_own hat' (vx_isRefq hU'.1) (vx_isRefq hN'.1) hU'.2.word hN'.2.word
  have hown' : s'.vm.findClass own = some m.cls := by rw [hvm]; exact hown
  have hins : (Cond.instantiable cls 6).before args s' = true := h _ (by simp [Bundle.ownAtoms])
  obtain ⟨vm₁, cX, kX, hfX, hkX, -, -, X₁, st1⟩ := Y.newCold hexec (own := own) (C := cls) (index := ik) (n := 6) hown' hk' hins hini'
    (g := F0 m pc ls rest) rfl (by rw [hb]; exact d0) (Nat.le_refl _) (Nat.le_refl _)
  generalize hT1 : (T.setVm vm₁).pushCell { cls := cX, slots := kX.instanceTypes.map defaultValue, vm := .none } = T1 at X₁ st1
  have hcat : (Value.ref T.heap.size).category = 1 := rfl
  have hcellA : T1.heap[T.heap.size]? = some (freshCell cX kX) := by rw [← hT1]; exact State.heap_pushCell_size _ _
  have d3' : decode c.code (pc + 3) = .ok (.dup, 1) := by rw [hb]; exact d3
  have d4' : decode c.code (pc + 4) = .ok (.ldc_w is, 3) := by rw [hb]; exact d4
  have hstr' : vk_R own is text sa s' := vk_R.warm hW0 hstr
  obtain ⟨U, hsteps, hrun, hend, hW, hsame, ce, hce, hO⟩ := X₁.ctorThrowS hexec htr (own := own) (cls := cls) (names := names) (ic := ic) hown' hcls hnames h (fun x hx => nomatch hx) hfX hkX hcellA (by rw [hhp, hT]; exact Nat.le_refl _) (msg := .ref sa) rfl
    (g := { method := m, pc := pc + 7, locals := ls, stack := .ref sa :: .ref T.heap.size :: .ref T.heap.size :: rest, locked := none }) rfl hsize rfl rfl (rest := rest) rfl
    (by rw [hb]; exact d7) (by rw [hb]; exact d10) hout hRframes (by simp only [List.map_cons, List.sum_cons, hcat]; omega) hlocks
  obtain ⟨f1, f2⟩ := vx_frame hsame
  rw [hhp] at f1 f2
  have hWs : s.WarmedH U.vm := State.WarmedH.trans hW0 hW
  have hcl : s.vm.findClass cls = some ce.cls := by
    have h9 := hO.cls
    rw [hvm] at h9
    exact h9
  have hall : s.sameButNew ({ U with vm := s.vm } : State) locs mc ms := by
    subst hA
    obtain ⟨e1, e2⟩ := hsame
    rw [State.setFrames_setFrames] at e1
    have h2 : (T.setVm s.vm).sameButNew ({ U with vm := s.vm } : State) [] (0 + 1) (0 + 6) := ⟨e1, e2⟩
    have h3 := X.same.trans h2
    rw [List.append_nil] at h3
    exact h3.mono hc hs
  refine ⟨U, ?_, .threw T.heap.size, hrun, hend, Or.inr ⟨T.heap.size, rfl, cls, ce, locs, hx U hWs.alike f1 (fun q hq => f2 q hq (fun z hz => nomatch hz)), hce, hO.vm, hcl, hWs, hall, hf⟩⟩
  refine st1 _ ?_
  show Steps p.tables e below (T1.setTop { method := m, pc := pc + 3, locals := ls, stack := .ref T.heap.size :: rest, locked := none }) _
  jvm_step X₁.here [X₁.here.top, hexec, d3', Value.category]
  exact X₁.ldcStringW hexec (own := own) (text := text) (index := is) (a := sa) hown' hstr'.1 hstr'.2
    (g := { method := m, pc := pc + 4, locals := ls, stack := .ref T.heap.size :: .ref T.heap.size :: rest, locked := none }) rfl d4' _ hsteps
end Ends
section Bodies
variable {l : Launch}
theorem vx_ofW {y : MethodName} {ws ws' : List Cond} {rm : Room} {Pc : Array Value → State → Prop} {Qc : Array Value → State → Outcome → State → Prop} {XC : String → State → State → Prop} {mc ms : Nat} {free : Addr → Prop} {cc : ByteArray} {maxL : Nat} {ret : Option FieldType}
    (hy : plainName y.cls = true) (hw : ws = Cond.code y cc maxL ret :: ws')
    (body : ∀ p e s m args below meth c s₁, BodyLoose p l y (headSpec ws rm) cc maxL ret e s m args below meth c s₁ → c.maxLocals = maxL → (∀ x ∈ c.exceptionTable.toList, False) → Pc args s →
      W p l e (headSpec ws rm).room s m args below meth c s.heap [] 0 0 (vx_MQ below Qc XC args s mc ms free) (entryFrame m args maxL)) : vx_Met l y ws rm Pc Qc XC mc ms free := by
  refine MetFree.of_bodyS (code := cc) (maxLocals := maxL) (ret := ret) hy ?_ ?_
  · intro args s m h hn
    obtain ⟨meth, c, h1, h2, h3, h4, h5, h6, -, -⟩ := Cond.code_spec hn (atoms_spec (ws := ws) h _ (by rw [hw]; exact List.mem_cons_self))
    exact ⟨meth, c, h1, h2, h3, h4, h5, h6⟩
  · intro p e s m args below meth c s₁ B hml hP _
    have hh0 : s₁.heap = s.heap := by rw [B.state]; rfl
    have ht : ∀ x ∈ c.exceptionTable.toList, False := by
      obtain ⟨meth9, c9, h1, h2, -, -, -, -, h7, -⟩ := Cond.code_spec B.named (atoms_spec (ws := ws) B.pre _ (by rw [hw]; exact List.mem_cons_self))
      cases Option.some.inj (h1.symm.trans B.method)
      cases Option.some.inj (h2.symm.trans (Stand.of_body B).code)
      intro x hx
      rw [Array.isEmpty_iff.mp h7] at hx
      cases hx
    obtain ⟨t, a1, o, b1, b2, b3⟩ := body p e s m args below meth c s₁ B hml ht hP s₁ hh0 (Stand.of_body B)
    exact ⟨t, o, a1, b1, b2, b3⟩
/-- the table of a body with handlers -/
theorem vx_table {p : Program} {x y : MethodName} {S : Spec} {cc bytes : ByteArray} {maxL maxL' : Nat} {ret ret' : Option FieldType} {e : Env} {s s₁ : State} {m : MethodId} {args : Array Value} {below : List Frame} {meth : Method} {c : Code} {hh : List (Nat × Nat × Nat × Nat)}
    (B : BodyLoose p l y S cc maxL ret e s m args below meth c s₁) (h : (Cond.codeWith y bytes maxL' ret' hh).before args s = true) : c.exceptionTable.toList = tableOf hh := by
  obtain ⟨m9, meth9, c9, hn9, h1, h2, -, -, h6, -⟩ := Cond.codeWith_spec h
  cases Option.some.inj (hn9.symm.trans B.named)
  cases Option.some.inj (h1.symm.trans B.method)
  cases Option.some.inj (h2.symm.trans (Stand.of_body B).code)
  rw [← h6, table_eq]
end Bodies
end VXA
/-! ===== END ===== -/
/-! ===== BEGIN a static call of a method with an exception table ===== -/
section VXS
variable {p : Program} {l : Launch} {e : Env} {R : Room} {s : State} {m : MethodId} {args : Array Value} {below : List Frame} {meth : Method} {c : Code} {T : State} {H : Heap} {locs : List Loc} {cells slots : Nat}
abbrev vx_CSW (R : Room) (s : State) (args : Array Value) (own : String) (index : Nat) (y : MethodName) (bytes : ByteArray) (maxL : Nat) (ret : Option FieldType) (hh : List (Nat × Nat × Nat × Nat)) (ws : List Cond) (rm : Room) (mc ms n : Nat) : Prop :=
  (rm.cells = mc ∧ rm.slots = ms ∧ rm.frames + 1 ≤ R.frames ∧ 8 + (maxL + 11) + rm.locals ≤ R.locals ∧ (∀ w ∈ ws, ∀ (a' : Array Value) (U : State), s.WarmedH U.vm → w.before a' U = true) ∧ Cond.codeWith y bytes maxL ret hh ∈ ws) ∧
  (Cond.codeWith y bytes maxL ret hh).before args s = true ∧ (Cond.initialized y.cls).before args s = true ∧ (y.cls ≠ "java/lang/invoke/MethodHandle" ∧ y.cls ≠ "java/lang/invoke/VarHandle") ∧
  (∀ sig, parseMethodDescriptor y.desc = some sig → n = sig.parameters.length) ∧ (Cond.methodLink own index y).before args s = true ∧ (Cond.static y).before args s = true
theorem vx_cwSW {own : String} {index maxL mc ms : Nat} {y : MethodName} {bytes : ByteArray} {ret : Option FieldType} {hh : List (Nat × Nat × Nat × Nat)} {Ts ws ws' : List Cond} {rm : Room} (n : Nat) (ht : ∀ w ∈ Ts, w.before args s = true) (hT : GoodIn Ts (va_wsS own index y ws)) (hw : ws = Cond.codeWith y bytes maxL ret hh :: ws') (hrc : rm.cells = mc) (hrs : rm.slots = ms)
    (hd : y.cls ≠ "java/lang/invoke/MethodHandle" ∧ y.cls ≠ "java/lang/invoke/VarHandle" ∧ (parseMethodDescriptor y.desc).map (fun d => d.parameters.length) = some n) (hR : rm.frames + 1 ≤ R.frames ∧ 8 + (maxL + 11) + rm.locals ≤ R.locals) :
    vx_CSW R s args own index y bytes maxL ret hh ws rm mc ms n := by
  have ok : ∀ w ∈ va_wsS own index y ws, w.before args s = true := fun w h => ht w (hT w h).1
  have hG : GoodIn Ts ws := fun w h => hT w (by unfold va_wsS; exact List.mem_append_right _ h)
  have hc : Cond.codeWith y bytes maxL ret hh ∈ ws := by rw [hw]; exact List.mem_cons_self
  refine ⟨⟨hrc, hrs, hR.1, hR.2, pay_in ht hG, hc⟩, ht _ (hG _ hc).1, ok _ (by simp [va_wsS]), ⟨hd.1, hd.2.1⟩, fun sig h => ?_, ok _ (by simp [va_wsS]), ok _ (by simp [va_wsS])⟩
  have h2 := hd.2.2
  rw [h] at h2
  exact (Option.some.inj h2).symm
theorem vx_callSW (X : Stand p l e R s m args below meth c T locs cells slots) (hexec : p.tables.exec = Jvm.exec) {own : String} {index : Nat} {y : MethodName} {bytes : ByteArray} {maxL : Nat} {ret : Option FieldType} {hh : List (Nat × Nat × Nat × Nat)}
    (hown : s.vm.findClass own = some m.cls) (hlink : (Cond.methodLink own index y).before args s = true) (hstat : (Cond.static y).before args s = true) (hinit : (Cond.initialized y.cls).before args s = true)
    (hcode : (Cond.codeWith y bytes maxL ret hh).before args s = true) (hy : y.cls ≠ "java/lang/invoke/MethodHandle" ∧ y.cls ≠ "java/lang/invoke/VarHandle")
    {W9 : Nat} {Pre : Pt → Array Value → Prop} {Post : Pt → Array Value → Option Value → Pt → Prop} (hK : Back l R p e below s args y 3 W9 Pre Post)
    {g : JFrame} (hg : g.method = m) (hsize : g.locals.size = c.maxLocals) {argsL rest : List Value} (hlen : ∀ sig, parseMethodDescriptor y.desc = some sig → argsL.length = sig.parameters.length)
    (hstack : g.stack = argsL.reverse ++ rest) (hW : 2 * g.monitorRoom + (rest.map fun v => v.category).sum ≤ W9) (hdg : decode c.code g.pc = .ok (.invokestatic index, 3))
    (hpre : ∀ vm₁, s.WarmedH vm₁ → Pre ⟨T.setVm vm₁, locs, cells, slots⟩ argsL.toArray) :
    ∃ (v : Option Value) (vm₁ : Vm) (B : Pt), s.WarmedH vm₁ ∧ Stand p l e R s m args below meth c B.U B.locs B.cells B.slots ∧ Post ⟨T.setVm vm₁, locs, cells, slots⟩ argsL.toArray v B ∧
      ∀ target, Steps p.tables e below (B.U.setTop { g with pc := g.pc + 3, stack := v.toList ++ rest }) target → Steps p.tables e below (T.setTop g) target := by
  obtain ⟨mk, methM, cM, hnamed, hmethM, -, -, -, -, -, -, hsigM⟩ := Cond.codeWith_spec hcode
  have hstatic : methM.isStatic = true := Cond.static_spec hnamed hmethM hstat
  obtain ⟨kP, hkP, -⟩ := className_of_methodNamed hnamed
  have hinitP : kP.init = .initialized := Cond.initialized_spec (findClass_of_methodNamed hnamed) hkP hinit
  obtain ⟨vm₁, X₁, hstep₁⟩ := X.invokestatic hexec hown hlink hnamed hmethM hstatic hkP hinitP hy (g := g) hg (argsL := argsL) (rest := rest) (hlen _ hsigM) hstack hdg
  obtain ⟨v, B, X', hpost, hsteps⟩ := hK m meth c ⟨T.setVm vm₁, locs, cells, slots⟩ { g with stack := rest } (.invokestatic index) mk argsL.toArray X₁ hg hsize hdg hW (X₁.named hnamed) (hpre vm₁ X₁.warmed)
  exact ⟨v, vm₁, B, X₁.warmed, X', hpost, fun target h => hstep₁ _ fun acts => by rw [doInvoke_state]; exact hsteps.trans h⟩
theorem vx_runSW {y : MethodName} {bytes cc : ByteArray} {maxL nL mc ms n index : Nat} {ret : Option FieldType} {hh : List (Nat × Nat × Nat × Nat)} {ws : List Cond} {rm : Room} {Pc : Array Value → State → Prop} {Qc : Array Value → State → Outcome → State → Prop} {free : Addr → Prop} {Ts : List Cond} {own : String} {As rest : List Value} {g : JFrame}
    (S : CallFix p m c cc nL s args Ts own) (hM : Met l y ws rm Pc Qc mc ms free) (cw : vx_CSW R s args own index y bytes maxL ret hh ws rm mc ms n) (hp : PreS s H Pc As)
    (hg : g.method = m) (hn : As.length = n) (hsize : g.locals.size = nL) (hstack : g.stack = As.reverse ++ rest) (hW : 2 * g.monitorRoom + (rest.map fun v => v.category).sum ≤ 8) (hdg : decode cc g.pc = .ok (.invokestatic index, 3)) (hf : cells + mc ≤ R.cells ∧ slots + ms ≤ R.slots) :
    va_Run p l e R s m args below meth c H locs cells slots mc ms g rest (Qc As.toArray) (free) := by
  obtain ⟨⟨hrc, hrs, hfr, hlo, hws, hcw⟩, hcode, hini, hy, hlen, hl, hstt⟩ := cw
  have hK : Back l R p e below s args y 3 8 (PreOf R mc ms Pc) (PostOf Qc mc ms free) := va_backW (hh := hh) (bytes := bytes) (maxL := maxL) (ret := ret) hM hp.1 hrc hrs hfr hlo hws hcw (fun a' U hW => word_at hW (Or.inl (by first | rfl | simp [Cond.onTables, Cond.keeps, Cond.steady])) hini)
  obtain ⟨hx, hb, hml, ho, -⟩ := S
  intro T hT X
  obtain ⟨v, vm₁, ⟨U', l2, c2, s2⟩, hW₁, X', ⟨g', mk, t, L, e1, e2, hq, h1, hL, h2, h3⟩, st⟩ := vx_callSW X hx (hh := hh) (bytes := bytes) (maxL := maxL) (ret := ret) ho hl hstt hini hcode hy hK hg (hsize.trans hml.symm) (argsL := As) (rest := rest) (fun sig h => hn.trans (hlen sig h)) hstack hW (by rw [hb]; exact hdg)
    (fun vm₁ hW₁ => ⟨hf.1, hf.2, hp.2 (T.setVm vm₁) hT hW₁⟩)
  dsimp only [Pt.U, Pt.locs, Pt.cells, Pt.slots] at X' e1 e2 h1 h2 h3 st
  subst h1; subst h2; subst h3
  exact ⟨v, (T.setVm vm₁).calling g' mk As.toArray, t, U', L, hT, X', hL, e1, e2, hq, st⟩
/-- not caught here, past rows that name other classes: it goes on to the caller -/
theorem vx_outP {p : Program} {l : Launch} {e : Env} {R : Room} {s : State} {m : MethodId} {args : Array Value} {below : List Frame} {meth : Method} {c : Code} {H : Heap} {locs : List Loc} {cells slots : Nat} {free : Addr → Prop} {ls : Array Slot} {rest : List Value} {Qc : Array Value → State → Outcome → State → Prop} {XC : String → State → State → Prop}
    {pc : Nat} {own E : String} {ce : Cell} {q : Addr} {mc ms : Nat} (hown : s.vm.findClass own = some m.cls) (hlocks : meth.locks = false)
    (hpass : ∀ z ∈ c.exceptionTable.toList, covers z pc = false ∨ (z.catchType ≠ 0 ∧ ∃ nm : String, (Cond.classLink own z.catchType nm).before args s = true ∧ va_Nc E nm s)) (hcell : H[q]? = some ce) (hv : ce.vm = .none) (hcl : s.vm.findClass E = some ce.cls)
    (hx : ∀ t : State, t.heap = H → s.vm.Alike t.vm → XC E s t) (hf : ∀ z ∈ locs, free z.base) (hc : cells ≤ mc) (hs : slots ≤ ms) :
    vx_W p l e R s m args below meth c H locs cells slots (vx_MQ below Qc XC args s mc ms free) (F0 m pc ls rest) q := by
  intro T hT X
  have hpl : e.platform.magicAccessors = ({} : Platform).magicAccessors := by rw [X.admits.platform]
  obtain ⟨vm', hW', X', st⟩ := X.outThrough hlocks q (g := F0 m pc ls rest) rfl rfl rfl (cell := ce) (by rw [hT]; exact hcell) (by rw [hv]; rfl)
    (by obtain ⟨k9, h9, -⟩ := Vm.findClass_spec hcl; exact ⟨k9, h9⟩) (fun z hz => by
      rcases hpass z hz with h | ⟨hz0, nm, hl1, hn1⟩
      · exact Or.inl h
      · obtain ⟨c6, hc6, hcl6⟩ := Cond.classLink_spec hown hl1 e.platform hpl
        obtain ⟨a8, b8, h1, h2, h3⟩ := hn1
        cases Option.some.inj (h1.symm.trans hcl)
        cases Option.some.inj (h2.symm.trans hc6)
        exact Or.inr ⟨hz0, _, hcl6, h3⟩)
  obtain ⟨g₀, hfr⟩ := X'.frames_eq
  have hcell9 : ((T.setVm vm').setFrames (.throwing q :: below)).heap[q]? = some ce := by
    show T.heap[q]? = some ce
    rw [hT]; exact hcell
  have hend : Ended ((T.setVm vm').setFrames (.throwing q :: below)) below (.threw q) := State.frames_setFrames _ (State.cur_lt_of_frames hfr)
  refine ⟨(T.setVm vm').setFrames (.throwing q :: below), ?_, .threw q, X'.here.running, hend, Or.inr ⟨q, rfl, E, ce, locs, hx _ hT (X'.ends _).1.alike, hcell9, hv, hcl, (X'.ends _).1, (X'.ends _).2.mono hc hs, hf⟩⟩
  rw [X.pushThrowing_eq]
  exact st
/-- a thing of a world lies in the heap -/
theorem vx_lt {D : va_G} {cl : List vw_C} {ws : va_W} {H1 : Heap} (h : va_P D cl ws H1) {k : Nat} {q : Nat × va_E} (hk : ws[k]? = some q) : q.1 < H1.size := (h k q hk).lt
end VXS
/-! ===== END ===== -/
/-! ===== BEGIN methods with a table of their own: called by a name, returning or throwing ===== -/
section VXH
/-! vx_backW, vx_callVX, vx_callSX, vx_callVW, vx_runVW, vx_runVX, vx_runSX, vx_ofWH follow the same proofs as their sisters above (Free/Laws.lean, Shelf42/LK1.lean); vx_outP calls Shelf42/NT130.lean (outThrough). -/
section
variable {l : Launch} {R : Room} {p : Program} {e : Env} {below : List Frame} {s : State} {sargs : Array Value} {y : MethodName} {len W9 : Nat}
theorem vx_backW {ws : List Cond} {rm : Room} {Pc : Array Value → State → Prop} {Qc : Array Value → State → Outcome → State → Prop} {XC : String → State → State → Prop} {mc ms : Nat} {free : Addr → Prop} {bytes : ByteArray} {maxL : Nat} {ret : Option FieldType} {hh : List (Nat × Nat × Nat × Nat)}
    (hM : vx_Met l y ws rm Pc Qc XC mc ms free) (hblind : FrameBlind Pc) (hrc : rm.cells = mc) (hrs : rm.slots = ms)
    (hframes : rm.frames + 1 ≤ R.frames) (hlocals : W9 + (maxL + 11) + rm.locals ≤ R.locals)
    (hws : ∀ w ∈ ws, ∀ a' U, s.WarmedH U.vm → w.before a' U = true) (hcode : Cond.codeWith y bytes maxL ret hh ∈ ws) (hinit : ∀ a' U, s.WarmedH U.vm → (Cond.initialized y.cls).before a' U = true) :
    vx_Back l R p e below s sargs y len W9 (PreOf R mc ms Pc) (PostOf Qc mc ms free) (vx_Post XC mc ms free) := by
  intro m meth c A g ig mk a X hg hsize hdg hW hn hp
  have h1 : (headSpec ws rm).pre.before a A.U = true := atoms_intro fun w hw => hws w hw _ _ X.warmed
  have h2 : (Cond.codeWith y bytes maxL ret hh).before a A.U = true := hws _ hcode _ _ X.warmed
  have h3 : (Cond.initialized y.cls).before a A.U = true := hinit _ _ X.warmed
  have h4 : A.cells + (headSpec ws rm).room.cells ≤ R.cells := by rw [show (headSpec ws rm).room.cells = mc from hrc]; exact hp.1
  have h5 : A.slots + (headSpec ws rm).room.slots ≤ R.slots := by rw [show (headSpec ws rm).room.slots = ms from hrs]; exact hp.2.1
  have hPc : Pc a (A.U.calling g mk a) := hblind _ _ _ _ hp.2.2
  obtain ⟨U, Ls, c0, s0⟩ := A
  dsimp only [Pt.U, Pt.locs, Pt.cells, Pt.slots] at h1 h2 h3 h4 h5 X hn hPc ⊢
  obtain ⟨m9, methY, cY, hn9, hmY, hcY, -, hlY, -⟩ := Cond.codeWith_spec h2
  cases Option.some.inj (hn9.symm.trans hn)
  obtain ⟨kY, hkY, -⟩ := className_of_methodNamed hn
  have hinitY : kY.init = .initialized := Cond.initialized_spec (findClass_of_methodNamed hn) hkY h3
  have h : At U g.method c below := by rw [hg]; exact X.here
  have hlocals9 : W9 + (maxL + 11) + (headSpec ws rm).room.locals ≤ R.locals := hlocals
  have happ : (headSpec ws rm).appliesLoose y e.platform (U.calling g mk a) = true :=
    Spec.appliesLoose_calling (g := g) h hdg hn hkY hinitY
      (X.room_calling (g := g) (R' := (headSpec ws rm).room) hsize hmY hcY hframes (by rw [hlY]; omega) h4 h5) h1
  obtain ⟨mid, hmid⟩ := h.above
  have hfr : (U.setTop g).frames = (.java g :: mid) ++ below := by rw [State.frames_setTop' g h.top, hmid]; rfl
  obtain ⟨o, s₂, hsteps, -, hend, hq⟩ := Steps.callFree hM p X.admits X.cas X.clock (acts := []) hfr happ hPc trivial
  have hq' : vx_Q Qc XC mc ms free a (U.calling g mk a) o s₂ := hq
  rw [State.frames_setTop' g h.top] at hend
  obtain ⟨g₀, hg0⟩ := Option.isSome_iff_exists.mp h.top
  obtain ⟨r, hr⟩ := State.topJava?_eq_some.mp hg0
  have hr' : (({ U with heap := s₂.heap, slotsUsed := s₂.slotsUsed } : State).setVm s₂.vm).frames = .java g₀ :: r := hr
  rcases hq' with ⟨hqc, L, hfe, hL⟩ | ⟨q, rfl, E, ce, L, hx, hce, hcv, hcl, hW₂, hsm, hL⟩
  · obtain ⟨⟨v, rfl⟩, hW₂, e2, q2, q3, q4, q5, q6⟩ := id hfe
    have e3 : s₂ = ({ (U.calling g mk a).setFrames s₂.frames with heap := s₂.heap, slotsUsed := s₂.slotsUsed } : State).setVm s₂.vm := by
      have : s₂ = ({ s₂ with vm := (U.calling g mk a).vm } : State).setVm s₂.vm := rfl
      rw [e2] at this
      exact this
    obtain ⟨c₂, i₂, len₂, hc₂, hd₂, hf₂⟩ := hend
    have hW' : U.WarmedH s₂.vm := hW₂
    have hcc : c₂ = c := by
      have h1 : s₂.code? g.method = U.code? g.method := by
        rw [State.code?_eq, State.code?_eq, hW'.alike.method?]
      exact Option.some.inj (hc₂.symm.trans (h1.trans h.code))
    subst hcc
    have hlen : len₂ = len := by rw [hdg] at hd₂; cases hd₂; rfl
    subst hlen
    have hs₂ : s₂ = (({ U with heap := s₂.heap, slotsUsed := s₂.slotsUsed } : State).setVm s₂.vm).setTop { g with pc := g.pc + len₂, stack := v.toList ++ g.stack } := by
      refine e3.trans ?_
      rw [hf₂, State.calling_eq h.top, State.setFrames_setFrames, State.setTop_of_frames _ hr', hr]
      rfl
    have hsame : U.sameButNew ({ U with heap := s₂.heap, slotsUsed := s₂.slotsUsed } : State) L mc ms := by
      refine ⟨?_, q2, q3, q4, q5, q6⟩
      obtain ⟨t, ht, -⟩ := State.frames_cons hr
      show ({ U with heap := s₂.heap, slotsUsed := s₂.slotsUsed } : State) = { U.setFrames U.frames with heap := s₂.heap, slotsUsed := s₂.slotsUsed }
      rw [State.setFrames_self ht]
    subst hg
    refine Or.inl ⟨v, ⟨(({ U with heap := s₂.heap, slotsUsed := s₂.slotsUsed } : State).setVm s₂.vm), Ls ++ L, c0 + mc, s0 + ms⟩,
      ⟨X.admits, X.cas, X.clock, X.frames, X.room, X.hears, X.method, X.code, (X.here.setHeapUsed s₂.heap s₂.slotsUsed).setVm hW'.alike, X.tail, State.WarmedH.trans X.warmed hW', X.limits, X.bytes, X.same.trans (hsame.setVm s.vm)⟩,
      ⟨g, mk, s₂, L, rfl, rfl, hqc, rfl, hL, rfl, rfl⟩, ?_⟩
    show Steps p.tables e below _ ((({ U with heap := s₂.heap, slotsUsed := s₂.slotsUsed } : State).setVm s₂.vm).setTop { g with pc := g.pc + len₂, stack := v.toList ++ g.stack })
    rw [← hs₂]
    exact hsteps
  · obtain ⟨e2, q2, q3, q4, q5, q6⟩ := id hsm
    have e3 : s₂ = ({ (U.calling g mk a).setFrames s₂.frames with heap := s₂.heap, slotsUsed := s₂.slotsUsed } : State).setVm s₂.vm := by
      have : s₂ = ({ s₂ with vm := (U.calling g mk a).vm } : State).setVm s₂.vm := rfl
      rw [e2] at this
      exact this
    have hf₂ : s₂.frames = .throwing q :: .java g :: U.frames.tail := hend
    have hW' : U.WarmedH s₂.vm := hW₂
    have hs₂ : s₂ = ((({ U with heap := s₂.heap, slotsUsed := s₂.slotsUsed } : State).setVm s₂.vm).setTop g).pushFrame (.throwing q) := by
      refine e3.trans ?_
      rw [hf₂, State.calling_eq h.top, State.setFrames_setFrames, State.pushFrame, State.frames_setTop _ hr', State.setTop_of_frames _ hr', State.setFrames_setFrames, hr]
      rfl
    have hsame : U.sameButNew ({ U with heap := s₂.heap, slotsUsed := s₂.slotsUsed } : State) L mc ms := by
      refine ⟨?_, q2, q3, q4, q5, q6⟩
      obtain ⟨t, ht, -⟩ := State.frames_cons hr
      show ({ U with heap := s₂.heap, slotsUsed := s₂.slotsUsed } : State) = { U.setFrames U.frames with heap := s₂.heap, slotsUsed := s₂.slotsUsed }
      rw [State.setFrames_self ht]
    subst hg
    refine Or.inr ⟨q, ⟨(({ U with heap := s₂.heap, slotsUsed := s₂.slotsUsed } : State).setVm s₂.vm), Ls ++ L, c0 + mc, s0 + ms⟩,
      ⟨X.admits, X.cas, X.clock, X.frames, X.room, X.hears, X.method, X.code, (X.here.setHeapUsed s₂.heap s₂.slotsUsed).setVm hW'.alike, X.tail, State.WarmedH.trans X.warmed hW', X.limits, X.bytes, X.same.trans (hsame.setVm s.vm)⟩,
      ⟨g, mk, s₂, L, E, ce, rfl, rfl, hx, hce, hcv, hcl, rfl, hL, rfl, rfl⟩, ?_⟩
    show Steps p.tables e below _ (((({ U with heap := s₂.heap, slotsUsed := s₂.slotsUsed } : State).setVm s₂.vm).setTop g).pushFrame (.throwing q))
    rw [← hs₂]
    exact hsteps
end
variable {p : Program} {l : Launch} {e : Env} {R : Room} {s : State} {m : MethodId} {args : Array Value} {below : List Frame} {meth : Method} {c : Code} {T : State} {H : Heap} {locs : List Loc} {cells slots : Nat}
theorem vx_callVX (X : Stand p l e R s m args below meth c T locs cells slots) (hexec : p.tables.exec = Jvm.exec) {own C : String} {index : Nat} {y : MethodName} {bytes : ByteArray} {maxL : Nat} {ret : Option FieldType} {hh : List (Nat × Nat × Nat × Nat)}
    (hown : s.vm.findClass own = some m.cls) (hlink : (Cond.methodLink own index y).before args s = true) (hinst : (Cond.instanceMethod y).before args s = true) (hsel : (Cond.selects C y y).before args s = true)
    (hcode : (Cond.codeWith y bytes maxL ret hh).before args s = true) (hy : y.cls ≠ "java/lang/invoke/MethodHandle" ∧ y.cls ≠ "java/lang/invoke/VarHandle")
    {W9 : Nat} {Pre : Pt → Array Value → Prop} {Post : Pt → Array Value → Option Value → Pt → Prop} {PostX : Pt → Array Value → Addr → Pt → Prop} (hK : vx_Back l R p e below s args y 3 W9 Pre Post PostX)
    {b : Addr} {cellB : Cell} (hcell : T.heap[b]? = some cellB) (hobj : cellB.vm.isStatics = false) (hcls : s.vm.findClass C = some cellB.cls)
    {g : JFrame} (hg : g.method = m) (hsize : g.locals.size = c.maxLocals) {argsL rest : List Value} (hlen : ∀ sig, parseMethodDescriptor y.desc = some sig → argsL.length = sig.parameters.length)
    (hstack : g.stack = argsL.reverse ++ .ref b :: rest) (hW : 2 * g.monitorRoom + (rest.map fun v => v.category).sum ≤ W9) (hdg : decode c.code g.pc = .ok (.invokevirtual index, 3))
    (hpre : ∀ vm₁, s.WarmedH vm₁ → Pre ⟨T.setVm vm₁, locs, cells, slots⟩ (Value.ref b :: argsL).toArray) :
    (∃ (v : Option Value) (vm₁ : Vm) (B : Pt), s.WarmedH vm₁ ∧ Stand p l e R s m args below meth c B.U B.locs B.cells B.slots ∧ Post ⟨T.setVm vm₁, locs, cells, slots⟩ (Value.ref b :: argsL).toArray v B ∧
      ∀ target, Steps p.tables e below (B.U.setTop { g with pc := g.pc + 3, stack := v.toList ++ rest }) target → Steps p.tables e below (T.setTop g) target) ∨
    (∃ (q : Addr) (vm₁ : Vm) (B : Pt), s.WarmedH vm₁ ∧ Stand p l e R s m args below meth c B.U B.locs B.cells B.slots ∧ PostX ⟨T.setVm vm₁, locs, cells, slots⟩ (Value.ref b :: argsL).toArray q B ∧
      Steps p.tables e below (T.setTop g) ((B.U.setTop { g with stack := rest }).pushFrame (.throwing q))) := by
  obtain ⟨mk, methM, hnamed, hmethM, hstM, habM⟩ := Cond.instanceMethod_spec hinst
  obtain ⟨m8, methM', cM, hn8, hmethM', -, -, -, -, -, -, hsigM⟩ := Cond.codeWith_spec hcode
  cases Option.some.inj (hn8.symm.trans hnamed)
  cases hmethM.symm.trans hmethM'
  obtain ⟨c2, r2, m2, q1, q2, q3, q4, kP, hkP, hkPi⟩ := Cond.selects_spec hsel
  cases hcls.symm.trans q1
  cases (State.methodFound?_of_named hnamed hy).symm.trans q2
  cases hnamed.symm.trans q3
  have hselP : selectMethod e.platform s.vm cellB.cls mk = .method mk := by rw [Launch.admits_selectMethod X.admits]; exact q4
  obtain ⟨vm₁, X₁, hstep₁⟩ := X.invokevirtual hexec hown hlink hnamed hmethM hstM hkP hkPi hy (a := b) (cell := cellB) hcell
    (fun z h => by rw [h] at hobj; cases hobj) hselP hmethM habM hkP hkPi (g := g) hg (argsL := argsL) (rest := rest) (hlen _ hsigM) hstack hdg
  rcases hK m meth c ⟨T.setVm vm₁, locs, cells, slots⟩ { g with stack := rest } (.invokevirtual index) mk (Value.ref b :: argsL).toArray X₁ hg hsize hdg hW (X₁.named hnamed) (hpre vm₁ X₁.warmed) with ⟨v, B, X', hpost, hsteps⟩ | ⟨q, B, X', hpost, hsteps⟩
  · exact Or.inl ⟨v, vm₁, B, X₁.warmed, X', hpost, fun target h => hstep₁ _ fun acts => by rw [doInvoke_state]; exact hsteps.trans h⟩
  · exact Or.inr ⟨q, vm₁, B, X₁.warmed, X', hpost, hstep₁ _ fun acts => by rw [doInvoke_state]; exact hsteps⟩
theorem vx_callSX (X : Stand p l e R s m args below meth c T locs cells slots) (hexec : p.tables.exec = Jvm.exec) {own : String} {index : Nat} {y : MethodName} {bytes : ByteArray} {maxL : Nat} {ret : Option FieldType} {hh : List (Nat × Nat × Nat × Nat)}
    (hown : s.vm.findClass own = some m.cls) (hlink : (Cond.methodLink own index y).before args s = true) (hstat : (Cond.static y).before args s = true) (hinit : (Cond.initialized y.cls).before args s = true)
    (hcode : (Cond.codeWith y bytes maxL ret hh).before args s = true) (hy : y.cls ≠ "java/lang/invoke/MethodHandle" ∧ y.cls ≠ "java/lang/invoke/VarHandle")
    {W9 : Nat} {Pre : Pt → Array Value → Prop} {Post : Pt → Array Value → Option Value → Pt → Prop} {PostX : Pt → Array Value → Addr → Pt → Prop} (hK : vx_Back l R p e below s args y 3 W9 Pre Post PostX)
    {g : JFrame} (hg : g.method = m) (hsize : g.locals.size = c.maxLocals) {argsL rest : List Value} (hlen : ∀ sig, parseMethodDescriptor y.desc = some sig → argsL.length = sig.parameters.length)
    (hstack : g.stack = argsL.reverse ++ rest) (hW : 2 * g.monitorRoom + (rest.map fun v => v.category).sum ≤ W9) (hdg : decode c.code g.pc = .ok (.invokestatic index, 3))
    (hpre : ∀ vm₁, s.WarmedH vm₁ → Pre ⟨T.setVm vm₁, locs, cells, slots⟩ argsL.toArray) :
    (∃ (v : Option Value) (vm₁ : Vm) (B : Pt), s.WarmedH vm₁ ∧ Stand p l e R s m args below meth c B.U B.locs B.cells B.slots ∧ Post ⟨T.setVm vm₁, locs, cells, slots⟩ argsL.toArray v B ∧
      ∀ target, Steps p.tables e below (B.U.setTop { g with pc := g.pc + 3, stack := v.toList ++ rest }) target → Steps p.tables e below (T.setTop g) target) ∨
    (∃ (q : Addr) (vm₁ : Vm) (B : Pt), s.WarmedH vm₁ ∧ Stand p l e R s m args below meth c B.U B.locs B.cells B.slots ∧ PostX ⟨T.setVm vm₁, locs, cells, slots⟩ argsL.toArray q B ∧
      Steps p.tables e below (T.setTop g) ((B.U.setTop { g with stack := rest }).pushFrame (.throwing q))) := by
  obtain ⟨mk, methM, cM, hnamed, hmethM, -, -, -, -, -, -, hsigM⟩ := Cond.codeWith_spec hcode
  have hstatic : methM.isStatic = true := Cond.static_spec hnamed hmethM hstat
  obtain ⟨kP, hkP, -⟩ := className_of_methodNamed hnamed
  have hinitP : kP.init = .initialized := Cond.initialized_spec (findClass_of_methodNamed hnamed) hkP hinit
  obtain ⟨vm₁, X₁, hstep₁⟩ := X.invokestatic hexec hown hlink hnamed hmethM hstatic hkP hinitP hy (g := g) hg (argsL := argsL) (rest := rest) (hlen _ hsigM) hstack hdg
  rcases hK m meth c ⟨T.setVm vm₁, locs, cells, slots⟩ { g with stack := rest } (.invokestatic index) mk argsL.toArray X₁ hg hsize hdg hW (X₁.named hnamed) (hpre vm₁ X₁.warmed) with ⟨v, B, X', hpost, hsteps⟩ | ⟨q, B, X', hpost, hsteps⟩
  · exact Or.inl ⟨v, vm₁, B, X₁.warmed, X', hpost, fun target h => hstep₁ _ fun acts => by rw [doInvoke_state]; exact hsteps.trans h⟩
  · exact Or.inr ⟨q, vm₁, B, X₁.warmed, X', hpost, hstep₁ _ fun acts => by rw [doInvoke_state]; exact hsteps⟩
theorem vx_callVW (X : Stand p l e R s m args below meth c T locs cells slots) (hexec : p.tables.exec = Jvm.exec) {own C : String} {index : Nat} {y : MethodName} {bytes : ByteArray} {maxL : Nat} {ret : Option FieldType} {hh : List (Nat × Nat × Nat × Nat)}
    (hown : s.vm.findClass own = some m.cls) (hlink : (Cond.methodLink own index y).before args s = true) (hinst : (Cond.instanceMethod y).before args s = true) (hsel : (Cond.selects C y y).before args s = true)
    (hcode : (Cond.codeWith y bytes maxL ret hh).before args s = true) (hy : y.cls ≠ "java/lang/invoke/MethodHandle" ∧ y.cls ≠ "java/lang/invoke/VarHandle")
    {W9 : Nat} {Pre : Pt → Array Value → Prop} {Post : Pt → Array Value → Option Value → Pt → Prop} (hK : Back l R p e below s args y 3 W9 Pre Post)
    {b : Addr} {cellB : Cell} (hcell : T.heap[b]? = some cellB) (hobj : cellB.vm.isStatics = false) (hcls : s.vm.findClass C = some cellB.cls)
    {g : JFrame} (hg : g.method = m) (hsize : g.locals.size = c.maxLocals) {argsL rest : List Value} (hlen : ∀ sig, parseMethodDescriptor y.desc = some sig → argsL.length = sig.parameters.length)
    (hstack : g.stack = argsL.reverse ++ .ref b :: rest) (hW : 2 * g.monitorRoom + (rest.map fun v => v.category).sum ≤ W9) (hdg : decode c.code g.pc = .ok (.invokevirtual index, 3))
    (hpre : ∀ vm₁, s.WarmedH vm₁ → Pre ⟨T.setVm vm₁, locs, cells, slots⟩ (Value.ref b :: argsL).toArray) :
    ∃ (v : Option Value) (vm₁ : Vm) (B : Pt), s.WarmedH vm₁ ∧ Stand p l e R s m args below meth c B.U B.locs B.cells B.slots ∧ Post ⟨T.setVm vm₁, locs, cells, slots⟩ (Value.ref b :: argsL).toArray v B ∧
      ∀ target, Steps p.tables e below (B.U.setTop { g with pc := g.pc + 3, stack := v.toList ++ rest }) target → Steps p.tables e below (T.setTop g) target := by
  obtain ⟨mk, methM, hnamed, hmethM, hstM, habM⟩ := Cond.instanceMethod_spec hinst
  obtain ⟨m8, methM', cM, hn8, hmethM', -, -, -, -, -, -, hsigM⟩ := Cond.codeWith_spec hcode
  cases Option.some.inj (hn8.symm.trans hnamed)
  cases hmethM.symm.trans hmethM'
  obtain ⟨c2, r2, m2, q1, q2, q3, q4, kP, hkP, hkPi⟩ := Cond.selects_spec hsel
  cases hcls.symm.trans q1
  cases (State.methodFound?_of_named hnamed hy).symm.trans q2
  cases hnamed.symm.trans q3
  have hselP : selectMethod e.platform s.vm cellB.cls mk = .method mk := by rw [Launch.admits_selectMethod X.admits]; exact q4
  obtain ⟨vm₁, X₁, hstep₁⟩ := X.invokevirtual hexec hown hlink hnamed hmethM hstM hkP hkPi hy (a := b) (cell := cellB) hcell
    (fun z h => by rw [h] at hobj; cases hobj) hselP hmethM habM hkP hkPi (g := g) hg (argsL := argsL) (rest := rest) (hlen _ hsigM) hstack hdg
  obtain ⟨v, B, X', hpost, hsteps⟩ := hK m meth c ⟨T.setVm vm₁, locs, cells, slots⟩ { g with stack := rest } (.invokevirtual index) mk (Value.ref b :: argsL).toArray X₁ hg hsize hdg hW (X₁.named hnamed) (hpre vm₁ X₁.warmed)
  exact ⟨v, vm₁, B, X₁.warmed, X', hpost, fun target h => hstep₁ _ fun acts => by rw [doInvoke_state]; exact hsteps.trans h⟩
abbrev vx_CVW (R : Room) (s : State) (args : Array Value) (own C : String) (index : Nat) (y : MethodName) (bytes : ByteArray) (maxL : Nat) (ret : Option FieldType) (hh : List (Nat × Nat × Nat × Nat)) (ws : List Cond) (rm : Room) (mc ms n : Nat) : Prop :=
  (rm.cells = mc ∧ rm.slots = ms ∧ rm.frames + 1 ≤ R.frames ∧ 8 + (maxL + 11) + rm.locals ≤ R.locals ∧ (∀ w ∈ ws, ∀ (a' : Array Value) (U : State), s.WarmedH U.vm → w.before a' U = true) ∧ Cond.codeWith y bytes maxL ret hh ∈ ws) ∧
  (Cond.codeWith y bytes maxL ret hh).before args s = true ∧ (Cond.initialized y.cls).before args s = true ∧ (y.cls ≠ "java/lang/invoke/MethodHandle" ∧ y.cls ≠ "java/lang/invoke/VarHandle") ∧
  (∀ sig, parseMethodDescriptor y.desc = some sig → n = sig.parameters.length) ∧ (Cond.methodLink own index y).before args s = true ∧ (Cond.instanceMethod y).before args s = true ∧ (Cond.selects C y y).before args s = true
theorem vx_cwVW {own C : String} {index maxL mc ms : Nat} {y : MethodName} {bytes : ByteArray} {ret : Option FieldType} {hh : List (Nat × Nat × Nat × Nat)} {Ts ws ws' : List Cond} {rm : Room} (n : Nat) (ht : ∀ w ∈ Ts, w.before args s = true) (hT : GoodIn Ts (wsV own index C y ws)) (hw : ws = Cond.codeWith y bytes maxL ret hh :: ws') (hrc : rm.cells = mc) (hrs : rm.slots = ms)
    (hd : y.cls = C ∧ y.cls ≠ "java/lang/invoke/MethodHandle" ∧ y.cls ≠ "java/lang/invoke/VarHandle" ∧ (parseMethodDescriptor y.desc).map (fun d => d.parameters.length) = some n) (hR : rm.frames + 1 ≤ R.frames ∧ 8 + (maxL + 11) + rm.locals ≤ R.locals) :
    vx_CVW R s args own C index y bytes maxL ret hh ws rm mc ms n := by
  obtain ⟨hC, hd⟩ := hd
  subst hC
  have ok : ∀ w ∈ wsV own index y.cls y ws, w.before args s = true := fun w h => ht w (hT w h).1
  have hG : GoodIn Ts ws := fun w h => hT w (by unfold wsV; exact List.mem_append_right _ h)
  have hc : Cond.codeWith y bytes maxL ret hh ∈ ws := by rw [hw]; exact List.mem_cons_self
  refine ⟨⟨hrc, hrs, hR.1, hR.2, pay_in ht hG, hc⟩, ht _ (hG _ hc).1, ok _ (by simp [wsV]), ⟨hd.1, hd.2.1⟩, fun sig h => ?_, ok _ (by simp [wsV]), ok _ (by simp [wsV]), ok _ (by simp [wsV])⟩
  have h2 := hd.2.2
  rw [h] at h2
  exact (Option.some.inj h2).symm
theorem vx_runVW {y : MethodName} {bytes cc : ByteArray} {maxL nL mc ms n index : Nat} {ret : Option FieldType} {hh : List (Nat × Nat × Nat × Nat)} {ws : List Cond} {rm : Room} {Pc : Array Value → State → Prop} {Qc : Array Value → State → Outcome → State → Prop} {free : Addr → Prop} {Ts : List Cond} {own C : String} {b : Addr} {As rest : List Value} {g : JFrame}
    (S : CallFix p m c cc nL s args Ts own) (hM : Met l y ws rm Pc Qc mc ms free) (cw : vx_CVW R s args own C index y bytes maxL ret hh ws rm mc ms n) (hp : PreV s H C b Pc As)
    (hg : g.method = m) (hn : As.length = n) (hsize : g.locals.size = nL) (hstack : g.stack = As.reverse ++ .ref b :: rest) (hW : 2 * g.monitorRoom + (rest.map fun v => v.category).sum ≤ 8) (hdg : decode cc g.pc = .ok (.invokevirtual index, 3)) (hf : cells + mc ≤ R.cells ∧ slots + ms ≤ R.slots) :
    va_Run p l e R s m args below meth c H locs cells slots mc ms g rest (Qc (Value.ref b :: As).toArray) free := by
  obtain ⟨⟨hrc, hrs, hfr, hlo, hws, hcw⟩, hcode, hini, hy, hlen, hl, hin, hse⟩ := cw
  have hK : Back l R p e below s args y 3 8 (PreOf R mc ms Pc) (PostOf Qc mc ms free) := va_backW (hh := hh) (bytes := bytes) (maxL := maxL) (ret := ret) hM hp.1 hrc hrs hfr hlo hws hcw (fun a' U hW => word_at hW (Or.inl (by first | rfl | simp [Cond.onTables, Cond.keeps, Cond.steady])) hini)
  obtain ⟨hx, hb, hml, ho, -⟩ := S
  obtain ⟨-, ⟨cellB, hcB, hoB, hclB⟩, hPc⟩ := hp
  intro T hT X
  obtain ⟨v, vm₁, ⟨U', l2, c2, s2⟩, hW₁, X', ⟨g', mk, t, L, e1, e2, hq, h1, hL, h2, h3⟩, st⟩ := vx_callVW X hx (C := C) (hh := hh) (bytes := bytes) (maxL := maxL) (ret := ret) ho hl hin hse hcode hy hK (by rw [hT]; exact hcB) hoB hclB hg (hsize.trans hml.symm) (argsL := As) (rest := rest) (fun sig h => hn.trans (hlen sig h)) hstack hW (by rw [hb]; exact hdg)
    (fun vm₁ hW₁ => ⟨hf.1, hf.2, hPc (T.setVm vm₁) hT hW₁⟩)
  dsimp only [Pt.U, Pt.locs, Pt.cells, Pt.slots] at X' e1 e2 h1 h2 h3 st
  subst h1; subst h2; subst h3
  exact ⟨v, (T.setVm vm₁).calling g' mk (Value.ref b :: As).toArray, t, U', L, hT, X', hL, e1, e2, hq, st⟩
section
variable {y : MethodName} {bytes cc : ByteArray} {maxL nL mc ms n index : Nat} {ret : Option FieldType} {ws : List Cond} {rm : Room} {Pc : Array Value → State → Prop} {Qc : Array Value → State → Outcome → State → Prop} {XC : String → State → State → Prop} {free : Addr → Prop} {Ts : List Cond} {own C : String} {b : Addr} {As rest : List Value} {g : JFrame}
theorem vx_runVX {hh : List (Nat × Nat × Nat × Nat)} (S : CallFix p m c cc nL s args Ts own) (hM : vx_Met l y ws rm Pc Qc XC mc ms free) (cw : vx_CVW R s args own C index y bytes maxL ret hh ws rm mc ms n) (hp : PreV s H C b Pc As)
    (hg : g.method = m) (hn : As.length = n) (hsize : g.locals.size = nL) (hstack : g.stack = As.reverse ++ .ref b :: rest) (hW : 2 * g.monitorRoom + (rest.map fun v => v.category).sum ≤ 8) (hdg : decode cc g.pc = .ok (.invokevirtual index, 3)) (hf : cells + mc ≤ R.cells ∧ slots + ms ≤ R.slots) :
    vx_Run p l e R s m args below meth c H locs cells slots mc ms g rest (Qc (Value.ref b :: As).toArray) XC free := by
  obtain ⟨⟨hrc, hrs, hfr, hlo, hws, hcw⟩, hcode, hini, hy, hlen, hl, hin, hse⟩ := cw
  have hK : vx_Back l R p e below s args y 3 8 (PreOf R mc ms Pc) (PostOf Qc mc ms free) (vx_Post XC mc ms free) := vx_backW (hh := hh) (bytes := bytes) (maxL := maxL) (ret := ret) hM hp.1 hrc hrs hfr hlo hws hcw (fun a' U hW => word_at hW (Or.inl (by first | rfl | simp [Cond.onTables, Cond.keeps, Cond.steady])) hini)
  obtain ⟨hx, hb, hml, ho, -⟩ := S
  obtain ⟨-, ⟨cellB, hcB, hoB, hclB⟩, hPc⟩ := hp
  intro T hT X
  rcases vx_callVX X hx (C := C) (hh := hh) (bytes := bytes) (maxL := maxL) (ret := ret) ho hl hin hse hcode hy hK (by rw [hT]; exact hcB) hoB hclB hg (hsize.trans hml.symm) (argsL := As) (rest := rest) (fun sig h => hn.trans (hlen sig h)) hstack hW (by rw [hb]; exact hdg)
    (fun vm₁ hW₁ => ⟨hf.1, hf.2, hPc (T.setVm vm₁) hT hW₁⟩) with ⟨v, vm₁, ⟨U', l2, c2, s2⟩, hW₁, X', ⟨g', mk, t, L, e1, e2, hq, h1, hL, h2, h3⟩, st⟩ | ⟨q, vm₁, ⟨U', l2, c2, s2⟩, hW₁, X', ⟨g', mk, t, L, E, ce, e1, e2, hq, hce, hcv, hcl, h1, hL, h2, h3⟩, st⟩
  · dsimp only [Pt.U, Pt.locs, Pt.cells, Pt.slots] at X' e1 e2 h1 h2 h3 st
    subst h1; subst h2; subst h3
    exact Or.inl ⟨v, (T.setVm vm₁).calling g' mk (Value.ref b :: As).toArray, t, U', L, hT, X', hL, e1, e2, hq, st⟩
  · dsimp only [Pt.U, Pt.locs, Pt.cells, Pt.slots] at X' e1 e2 h1 h2 h3 st hcl
    subst h1; subst h2; subst h3
    exact Or.inr ⟨q, (T.setVm vm₁).calling g' mk (Value.ref b :: As).toArray, t, U', L, E, ce, hT, X', hL, e1, e2, hq, hce, hcv, vx_cls hW₁ hcl, st⟩
theorem vx_runSX {hh : List (Nat × Nat × Nat × Nat)} (S : CallFix p m c cc nL s args Ts own) (hM : vx_Met l y ws rm Pc Qc XC mc ms free) (cw : vx_CSW R s args own index y bytes maxL ret hh ws rm mc ms n) (hp : PreS s H Pc As)
    (hg : g.method = m) (hn : As.length = n) (hsize : g.locals.size = nL) (hstack : g.stack = As.reverse ++ rest) (hW : 2 * g.monitorRoom + (rest.map fun v => v.category).sum ≤ 8) (hdg : decode cc g.pc = .ok (.invokestatic index, 3)) (hf : cells + mc ≤ R.cells ∧ slots + ms ≤ R.slots) :
    vx_Run p l e R s m args below meth c H locs cells slots mc ms g rest (Qc As.toArray) XC free := by
  obtain ⟨⟨hrc, hrs, hfr, hlo, hws, hcw⟩, hcode, hini, hy, hlen, hl, hstt⟩ := cw
  have hK : vx_Back l R p e below s args y 3 8 (PreOf R mc ms Pc) (PostOf Qc mc ms free) (vx_Post XC mc ms free) := vx_backW (hh := hh) (bytes := bytes) (maxL := maxL) (ret := ret) hM hp.1 hrc hrs hfr hlo hws hcw (fun a' U hW => word_at hW (Or.inl (by first | rfl | simp [Cond.onTables, Cond.keeps, Cond.steady])) hini)
  obtain ⟨hx, hb, hml, ho, -⟩ := S
  intro T hT X
  rcases vx_callSX X hx (hh := hh) (bytes := bytes) (maxL := maxL) (ret := ret) ho hl hstt hini hcode hy hK hg (hsize.trans hml.symm) (argsL := As) (rest := rest) (fun sig h => hn.trans (hlen sig h)) hstack hW (by rw [hb]; exact hdg)
    (fun vm₁ hW₁ => ⟨hf.1, hf.2, hp.2 (T.setVm vm₁) hT hW₁⟩) with ⟨v, vm₁, ⟨U', l2, c2, s2⟩, hW₁, X', ⟨g', mk, t, L, e1, e2, hq, h1, hL, h2, h3⟩, st⟩ | ⟨q, vm₁, ⟨U', l2, c2, s2⟩, hW₁, X', ⟨g', mk, t, L, E, ce, e1, e2, hq, hce, hcv, hcl, h1, hL, h2, h3⟩, st⟩
  · dsimp only [Pt.U, Pt.locs, Pt.cells, Pt.slots] at X' e1 e2 h1 h2 h3 st
    subst h1; subst h2; subst h3
    exact Or.inl ⟨v, (T.setVm vm₁).calling g' mk As.toArray, t, U', L, hT, X', hL, e1, e2, hq, st⟩
  · dsimp only [Pt.U, Pt.locs, Pt.cells, Pt.slots] at X' e1 e2 h1 h2 h3 st hcl
    subst h1; subst h2; subst h3
    exact Or.inr ⟨q, (T.setVm vm₁).calling g' mk As.toArray, t, U', L, E, ce, hT, X', hL, e1, e2, hq, hce, hcv, vx_cls hW₁ hcl, st⟩
end
end VXH
theorem vx_ofWH {l : Launch} {y : MethodName} {ws ws' : List Cond} {rm : Room} {Pc : Array Value → State → Prop} {Qc : Array Value → State → Outcome → State → Prop} {XC : String → State → State → Prop} {mc ms : Nat} {free : Addr → Prop} {cc : ByteArray} {maxL : Nat} {ret : Option FieldType} {hh : List (Nat × Nat × Nat × Nat)}
    (hy : plainName y.cls = true) (hw : ws = Cond.codeWith y cc maxL ret hh :: ws')
    (body : ∀ p e s m args below meth c s₁, BodyLoose p l y (headSpec ws rm) cc maxL ret e s m args below meth c s₁ → c.maxLocals = maxL → Pc args s →
      W p l e (headSpec ws rm).room s m args below meth c s.heap [] 0 0 (vx_MQ below Qc XC args s mc ms free) (entryFrame m args maxL)) : vx_Met l y ws rm Pc Qc XC mc ms free := by
  refine MetFree.of_bodyS (code := cc) (maxLocals := maxL) (ret := ret) hy ?_ ?_
  · intro args s m h hn
    obtain ⟨m9, meth, c, hn9, h1, h2, h3, h4, -, h5, h6, -⟩ := Cond.codeWith_spec (atoms_spec (ws := ws) h _ (by rw [hw]; exact List.mem_cons_self))
    cases hn.symm.trans hn9
    exact ⟨meth, c, h1, h2, h3, h4, h5, h6⟩
  · intro p e s m args below meth c s₁ B hml hP _
    have hh0 : s₁.heap = s.heap := by rw [B.state]; rfl
    obtain ⟨t, a1, o, b1, b2, b3⟩ := body p e s m args below meth c s₁ B hml hP s₁ hh0 (Stand.of_body B)
    exact ⟨t, o, a1, b1, b2, b3⟩
/-! ===== END ===== -/
end
section
def RX0 : String := "WorldDeltas$AckList"
def TX0 : u_T := fun k => match k with
  | 0 => ("WorldDeltas$AckList", "size", "I", false)
  | 1 => ("WorldDeltas$AckList", "number", "[I", true)
  | _ => ("WorldDeltas$AckList", "arrivesAt", "[I", true)
def tyX0 : Nat → FieldType := fun k => match k with
  | 0 => .int
  | 1 => .array .int
  | _ => .array .int
theorem nmX0 : ∀ a, a < 3 → ∀ b, b < 3 → a ≠ b → (TX0 a).2.1 ≠ (TX0 b).2.1 := by decide +kernel
theorem tyX0_ok : ∀ k, k < 3 → parseFieldDescriptor (TX0 k).2.2.1 = some (tyX0 k) := by decide +kernel
abbrev cX0_init : ByteArray := prog_2_method_1_code
def yX0_init : MethodName := ⟨RX0, "<init>", "()V"⟩
abbrev cX0_copyFrom : ByteArray := prog_2_method_2_code
def yX0_copyFrom : MethodName := ⟨RX0, "copyFrom", "(LWorldDeltas$AckList;)V"⟩
abbrev cX0_add : ByteArray := prog_2_method_3_code
def yX0_add : MethodName := ⟨RX0, "add", "(II)V"⟩
abbrev cX0_removeArrived : ByteArray := prog_2_method_4_code
def yX0_removeArrived : MethodName := ⟨RX0, "removeArrived", "(I)V"⟩
def RX1 : String := "WorldDeltas$Client"
def TX1 : u_T := fun k => match k with
  | 0 => ("WorldDeltas$Client", "connected", "Z", false)
  | 1 => ("WorldDeltas$Client", "centerX", "I", false)
  | 2 => ("WorldDeltas$Client", "centerY", "I", false)
  | 3 => ("WorldDeltas$Client", "radius", "I", false)
  | 4 => ("WorldDeltas$Client", "budget", "I", false)
  | 5 => ("WorldDeltas$Client", "packetsToLose", "I", false)
  | 6 => ("WorldDeltas$Client", "acksToLose", "I", false)
  | 7 => ("WorldDeltas$Client", "counts", "[I", true)
  | 8 => ("WorldDeltas$Client", "priority", "[I", true)
  | 9 => ("WorldDeltas$Client", "baselineNumber", "[I", true)
  | 10 => ("WorldDeltas$Client", "baselineState", "[I", true)
  | 11 => ("WorldDeltas$Client", "records", "LWorldDeltas$Records;", true)
  | 12 => ("WorldDeltas$Client", "inFlight", "LWorldDeltas$PacketList;", true)
  | 13 => ("WorldDeltas$Client", "onTheWay", "LWorldDeltas$PacketList;", true)
  | 14 => ("WorldDeltas$Client", "acks", "LWorldDeltas$AckList;", true)
  | _ => ("WorldDeltas$Client", "order", "[I", true)
def tyX1 : Nat → FieldType := fun k => match k with
  | 0 => .boolean
  | 1 => .int
  | 2 => .int
  | 3 => .int
  | 4 => .int
  | 5 => .int
  | 6 => .int
  | 7 => .array .int
  | 8 => .array .int
  | 9 => .array .int
  | 10 => .array .int
  | 11 => .object "WorldDeltas$Records"
  | 12 => .object "WorldDeltas$PacketList"
  | 13 => .object "WorldDeltas$PacketList"
  | 14 => .object "WorldDeltas$AckList"
  | _ => .array .int
theorem nmX1 : ∀ a, a < 16 → ∀ b, b < 16 → a ≠ b → (TX1 a).2.1 ≠ (TX1 b).2.1 := by decide +kernel
theorem tyX1_ok : ∀ k, k < 16 → parseFieldDescriptor (TX1 k).2.2.1 = some (tyX1 k) := by decide +kernel
abbrev cX1_init : ByteArray := prog_3_method_1_code
def yX1_init : MethodName := ⟨RX1, "<init>", "()V"⟩
abbrev cX1_copyFrom : ByteArray := prog_3_method_2_code
def yX1_copyFrom : MethodName := ⟨RX1, "copyFrom", "(LWorldDeltas$Client;)V"⟩
abbrev cX1_reset : ByteArray := prog_3_method_3_code
def yX1_reset : MethodName := ⟨RX1, "reset", "()V"⟩
abbrev cX1_turnTo : ByteArray := prog_3_method_4_code
def yX1_turnTo : MethodName := ⟨RX1, "turnTo", "(III)V"⟩
abbrev cX1_distance : ByteArray := prog_3_method_5_code
def yX1_distance : MethodName := ⟨RX1, "distance", "(LWorldDeltas$Entities;I)I"⟩
abbrev cX1_reaches : ByteArray := prog_3_method_6_code
def yX1_reaches : MethodName := ⟨RX1, "reaches", "(I)Z"⟩
abbrev cX1_entitiesInArea : ByteArray := prog_3_method_7_code
def yX1_entitiesInArea : MethodName := ⟨RX1, "entitiesInArea", "(LWorldDeltas$Entities;)I"⟩
abbrev cX1_staleCopies : ByteArray := prog_3_method_8_code
def yX1_staleCopies : MethodName := ⟨RX1, "staleCopies", "(LWorldDeltas$Entities;)I"⟩
abbrev cX1_entryKind : ByteArray := prog_3_method_9_code
def yX1_entryKind : MethodName := ⟨RX1, "entryKind", "(LWorldDeltas$Entities;I)I"⟩
abbrev cX1_entryMask : ByteArray := prog_3_method_10_code
def yX1_entryMask : MethodName := ⟨RX1, "entryMask", "(LWorldDeltas$Entities;II)I"⟩
abbrev cX1_entryBytes : ByteArray := prog_3_method_11_code
def yX1_entryBytes : MethodName := ⟨RX1, "entryBytes", "(LWorldDeltas$Entities;I)I"⟩
abbrev cX1_giveUpOldPackets : ByteArray := prog_3_method_12_code
def yX1_giveUpOldPackets : MethodName := ⟨RX1, "giveUpOldPackets", "(II)V"⟩
abbrev cX1_raisePriorities : ByteArray := prog_3_method_13_code
def yX1_raisePriorities : MethodName := ⟨RX1, "raisePriorities", "(LWorldDeltas$Entities;)V"⟩
abbrev cX1_orderByPriority : ByteArray := prog_3_method_14_code
def yX1_orderByPriority : MethodName := ⟨RX1, "orderByPriority", "()I"⟩
abbrev cX1_sendPacket : ByteArray := prog_3_method_15_code
def yX1_sendPacket : MethodName := ⟨RX1, "sendPacket", "(LWorldDeltas$Entities;II)V"⟩
abbrev cX1_offerEntry : ByteArray := prog_3_method_16_code
def yX1_offerEntry : MethodName := ⟨RX1, "offerEntry", "(LWorldDeltas$Packet;LWorldDeltas$Entities;I)V"⟩
abbrev cX1_receivePackets : ByteArray := prog_3_method_17_code
def yX1_receivePackets : MethodName := ⟨RX1, "receivePackets", "(II)V"⟩
abbrev cX1_receivePacket : ByteArray := prog_3_method_18_code
def yX1_receivePacket : MethodName := ⟨RX1, "receivePacket", "(LWorldDeltas$Packet;)V"⟩
abbrev cX1_receiveEntry : ByteArray := prog_3_method_19_code
def yX1_receiveEntry : MethodName := ⟨RX1, "receiveEntry", "(LWorldDeltas$Packet;I)V"⟩
abbrev cX1_sendAck : ByteArray := prog_3_method_20_code
def yX1_sendAck : MethodName := ⟨RX1, "sendAck", "(II)V"⟩
abbrev cX1_receiveAcks : ByteArray := prog_3_method_21_code
def yX1_receiveAcks : MethodName := ⟨RX1, "receiveAcks", "(I)V"⟩
abbrev cX1_receiveAck : ByteArray := prog_3_method_22_code
def yX1_receiveAck : MethodName := ⟨RX1, "receiveAck", "(I)V"⟩
abbrev cX1_countValue : ByteArray := prog_3_method_23_code
def yX1_countValue : MethodName := ⟨RX1, "countValue", "(I)I"⟩
abbrev cX1_keptValue : ByteArray := prog_3_method_24_code
def yX1_keptValue : MethodName := ⟨RX1, "keptValue", "(LWorldDeltas$Entities;II)I"⟩
def RX2 : String := "WorldDeltas$Entities"
def TX2 : u_T := fun k => match k with
  | 0 => ("WorldDeltas$Entities", "state", "[I", true)
  | 1 => ("WorldDeltas$Entities", "vx", "[I", true)
  | _ => ("WorldDeltas$Entities", "vy", "[I", true)
def tyX2 : Nat → FieldType := fun k => match k with
  | 0 => .array .int
  | 1 => .array .int
  | _ => .array .int
theorem nmX2 : ∀ a, a < 3 → ∀ b, b < 3 → a ≠ b → (TX2 a).2.1 ≠ (TX2 b).2.1 := by decide +kernel
theorem tyX2_ok : ∀ k, k < 3 → parseFieldDescriptor (TX2 k).2.2.1 = some (tyX2 k) := by decide +kernel
abbrev cX2_init : ByteArray := prog_4_method_1_code
def yX2_init : MethodName := ⟨RX2, "<init>", "()V"⟩
abbrev cX2_copyFrom : ByteArray := prog_4_method_2_code
def yX2_copyFrom : MethodName := ⟨RX2, "copyFrom", "(LWorldDeltas$Entities;)V"⟩
abbrev cX2_exists : ByteArray := prog_4_method_3_code
def yX2_exists : MethodName := ⟨RX2, "exists", "(I)Z"⟩
abbrev cX2_put : ByteArray := prog_4_method_4_code
def yX2_put : MethodName := ⟨RX2, "put", "(II)Z"⟩
abbrev cX2_changeVelocity : ByteArray := prog_4_method_5_code
def yX2_changeVelocity : MethodName := ⟨RX2, "changeVelocity", "(III)I"⟩
abbrev cX2_changeHealth : ByteArray := prog_4_method_6_code
def yX2_changeHealth : MethodName := ⟨RX2, "changeHealth", "(II)I"⟩
abbrev cX2_remove : ByteArray := prog_4_method_7_code
def yX2_remove : MethodName := ⟨RX2, "remove", "(I)I"⟩
abbrev cX2_value : ByteArray := prog_4_method_8_code
def yX2_value : MethodName := ⟨RX2, "value", "(II)I"⟩
abbrev cX2_move : ByteArray := prog_4_method_9_code
def yX2_move : MethodName := ⟨RX2, "move", "()V"⟩
abbrev cX2_moveOne : ByteArray := prog_4_method_10_code
def yX2_moveOne : MethodName := ⟨RX2, "moveOne", "(I)V"⟩
abbrev cX2_isOutside : ByteArray := prog_4_method_11_code
def yX2_isOutside : MethodName := ⟨RX2, "isOutside", "(I)Z"⟩
abbrev cX2_reflected : ByteArray := prog_4_method_12_code
def yX2_reflected : MethodName := ⟨RX2, "reflected", "(I)I"⟩
def RX3 : String := "WorldDeltas$Packet"
def TX3 : u_T := fun k => match k with
  | 0 => ("WorldDeltas$Packet", "number", "I", false)
  | 1 => ("WorldDeltas$Packet", "bytes", "I", false)
  | 2 => ("WorldDeltas$Packet", "entries", "I", false)
  | 3 => ("WorldDeltas$Packet", "sentAt", "I", false)
  | 4 => ("WorldDeltas$Packet", "arrivesAt", "I", false)
  | 5 => ("WorldDeltas$Packet", "kind", "[I", true)
  | 6 => ("WorldDeltas$Packet", "entity", "[I", true)
  | 7 => ("WorldDeltas$Packet", "baseline", "[I", true)
  | 8 => ("WorldDeltas$Packet", "mask", "[I", true)
  | _ => ("WorldDeltas$Packet", "state", "[I", true)
def tyX3 : Nat → FieldType := fun k => match k with
  | 0 => .int
  | 1 => .int
  | 2 => .int
  | 3 => .int
  | 4 => .int
  | 5 => .array .int
  | 6 => .array .int
  | 7 => .array .int
  | 8 => .array .int
  | _ => .array .int
theorem nmX3 : ∀ a, a < 10 → ∀ b, b < 10 → a ≠ b → (TX3 a).2.1 ≠ (TX3 b).2.1 := by decide +kernel
theorem tyX3_ok : ∀ k, k < 10 → parseFieldDescriptor (TX3 k).2.2.1 = some (tyX3 k) := by decide +kernel
abbrev cX3_init : ByteArray := prog_5_method_1_code
def yX3_init : MethodName := ⟨RX3, "<init>", "()V"⟩
abbrev cX3_begin : ByteArray := prog_5_method_2_code
def yX3_begin : MethodName := ⟨RX3, "begin", "(III)V"⟩
abbrev cX3_copyFrom : ByteArray := prog_5_method_3_code
def yX3_copyFrom : MethodName := ⟨RX3, "copyFrom", "(LWorldDeltas$Packet;)V"⟩
abbrev cX3_add : ByteArray := prog_5_method_4_code
def yX3_add : MethodName := ⟨RX3, "add", "(IIIII)V"⟩
abbrev cX3_bytesFor : ByteArray := prog_5_method_5_code
def yX3_bytesFor : MethodName := ⟨RX3, "bytesFor", "(II)I"⟩
abbrev cX3_value : ByteArray := prog_5_method_6_code
def yX3_value : MethodName := ⟨RX3, "value", "(II)I"⟩
abbrev cX3_entryValue : ByteArray := prog_5_method_7_code
def yX3_entryValue : MethodName := ⟨RX3, "entryValue", "(II)I"⟩
def RX4 : String := "WorldDeltas$PacketList"
def TX4 : u_T := fun k => match k with
  | 0 => ("WorldDeltas$PacketList", "size", "I", false)
  | _ => ("WorldDeltas$PacketList", "slots", "[LWorldDeltas$Packet;", true)
def tyX4 : Nat → FieldType := fun k => match k with
  | 0 => .int
  | _ => .array (.object "WorldDeltas$Packet")
theorem nmX4 : ∀ a, a < 2 → ∀ b, b < 2 → a ≠ b → (TX4 a).2.1 ≠ (TX4 b).2.1 := by decide +kernel
theorem tyX4_ok : ∀ k, k < 2 → parseFieldDescriptor (TX4 k).2.2.1 = some (tyX4 k) := by decide +kernel
abbrev cX4_init : ByteArray := prog_6_method_1_code
def yX4_init : MethodName := ⟨RX4, "<init>", "()V"⟩
abbrev cX4_copyFrom : ByteArray := prog_6_method_2_code
def yX4_copyFrom : MethodName := ⟨RX4, "copyFrom", "(LWorldDeltas$PacketList;)V"⟩
abbrev cX4_isFull : ByteArray := prog_6_method_3_code
def yX4_isFull : MethodName := ⟨RX4, "isFull", "()Z"⟩
abbrev cX4_addCopy : ByteArray := prog_6_method_4_code
def yX4_addCopy : MethodName := ⟨RX4, "addCopy", "(LWorldDeltas$Packet;)V"⟩
abbrev cX4_indexOf : ByteArray := prog_6_method_5_code
def yX4_indexOf : MethodName := ⟨RX4, "indexOf", "(I)I"⟩
abbrev cX4_removeAt : ByteArray := prog_6_method_6_code
def yX4_removeAt : MethodName := ⟨RX4, "removeAt", "(I)V"⟩
abbrev cX4_removeArrived : ByteArray := prog_6_method_7_code
def yX4_removeArrived : MethodName := ⟨RX4, "removeArrived", "(I)V"⟩
abbrev cX4_removeUpTo : ByteArray := prog_6_method_8_code
def yX4_removeUpTo : MethodName := ⟨RX4, "removeUpTo", "(I)V"⟩
def RX5 : String := "WorldDeltas$Records"
def TX5 : u_T := fun k => match k with
  | 0 => ("WorldDeltas$Records", "size", "[I", true)
  | 1 => ("WorldDeltas$Records", "number", "[I", true)
  | _ => ("WorldDeltas$Records", "state", "[I", true)
def tyX5 : Nat → FieldType := fun k => match k with
  | 0 => .array .int
  | 1 => .array .int
  | _ => .array .int
theorem nmX5 : ∀ a, a < 3 → ∀ b, b < 3 → a ≠ b → (TX5 a).2.1 ≠ (TX5 b).2.1 := by decide +kernel
theorem tyX5_ok : ∀ k, k < 3 → parseFieldDescriptor (TX5 k).2.2.1 = some (tyX5 k) := by decide +kernel
abbrev cX5_init : ByteArray := prog_7_method_1_code
def yX5_init : MethodName := ⟨RX5, "<init>", "()V"⟩
abbrev cX5_copyFrom : ByteArray := prog_7_method_2_code
def yX5_copyFrom : MethodName := ⟨RX5, "copyFrom", "(LWorldDeltas$Records;)V"⟩
abbrev cX5_clear : ByteArray := prog_7_method_3_code
def yX5_clear : MethodName := ⟨RX5, "clear", "()V"⟩
abbrev cX5_add : ByteArray := prog_7_method_4_code
def yX5_add : MethodName := ⟨RX5, "add", "(III)V"⟩
abbrev cX5_dropOldest : ByteArray := prog_7_method_5_code
def yX5_dropOldest : MethodName := ⟨RX5, "dropOldest", "(I)V"⟩
abbrev cX5_lastNumber : ByteArray := prog_7_method_6_code
def yX5_lastNumber : MethodName := ⟨RX5, "lastNumber", "(I)I"⟩
abbrev cX5_lastState : ByteArray := prog_7_method_7_code
def yX5_lastState : MethodName := ⟨RX5, "lastState", "(I)I"⟩
abbrev cX5_stateOfRecord : ByteArray := prog_7_method_8_code
def yX5_stateOfRecord : MethodName := ⟨RX5, "stateOfRecord", "(II)I"⟩
abbrev cX5_value : ByteArray := prog_7_method_9_code
def yX5_value : MethodName := ⟨RX5, "value", "(II)I"⟩
def RX6 : String := "WorldDeltas$State"
def TX6 : u_T := fun k => match k with
  | _ => ("", "", "", false)
def tyX6 : Nat → FieldType := fun k => match k with
  | _ => .int
theorem nmX6 : ∀ a, a < 0 → ∀ b, b < 0 → a ≠ b → (TX6 a).2.1 ≠ (TX6 b).2.1 := by decide +kernel
theorem tyX6_ok : ∀ k, k < 0 → parseFieldDescriptor (TX6 k).2.2.1 = some (tyX6 k) := by decide +kernel
abbrev cX6_of : ByteArray := prog_8_method_2_code
def yX6_of : MethodName := ⟨RX6, "of", "(IIII)I"⟩
abbrev cX6_part : ByteArray := prog_8_method_3_code
def yX6_part : MethodName := ⟨RX6, "part", "(II)I"⟩
abbrev cX6_maskOfDifferences : ByteArray := prog_8_method_4_code
def yX6_maskOfDifferences : MethodName := ⟨RX6, "maskOfDifferences", "(II)I"⟩
abbrev cX6_withParts : ByteArray := prog_8_method_5_code
def yX6_withParts : MethodName := ⟨RX6, "withParts", "(III)I"⟩
def RX7 : String := "WorldDeltas$UndoStack"
def TX7 : u_T := fun k => match k with
  | 0 => ("WorldDeltas$UndoStack", "size", "I", false)
  | _ => ("WorldDeltas$UndoStack", "saved", "[LWorldDeltas$World;", true)
def tyX7 : Nat → FieldType := fun k => match k with
  | 0 => .int
  | _ => .array (.object "WorldDeltas$World")
theorem nmX7 : ∀ a, a < 2 → ∀ b, b < 2 → a ≠ b → (TX7 a).2.1 ≠ (TX7 b).2.1 := by decide +kernel
theorem tyX7_ok : ∀ k, k < 2 → parseFieldDescriptor (TX7 k).2.2.1 = some (tyX7 k) := by decide +kernel
abbrev cX7_init : ByteArray := prog_9_method_1_code
def yX7_init : MethodName := ⟨RX7, "<init>", "()V"⟩
abbrev cX7_push : ByteArray := prog_9_method_2_code
def yX7_push : MethodName := ⟨RX7, "push", "(LWorldDeltas$World;)V"⟩
abbrev cX7_dropOldest : ByteArray := prog_9_method_3_code
def yX7_dropOldest : MethodName := ⟨RX7, "dropOldest", "()V"⟩
abbrev cX7_popInto : ByteArray := prog_9_method_4_code
def yX7_popInto : MethodName := ⟨RX7, "popInto", "(LWorldDeltas$World;)V"⟩
def RX8 : String := "WorldDeltas$World"
def TX8 : u_T := fun k => match k with
  | 0 => ("WorldDeltas$World", "time", "I", false)
  | 1 => ("WorldDeltas$World", "delay", "I", false)
  | 2 => ("WorldDeltas$World", "interval", "I", false)
  | 3 => ("WorldDeltas$World", "entities", "LWorldDeltas$Entities;", true)
  | _ => ("WorldDeltas$World", "clients", "[LWorldDeltas$Client;", true)
def tyX8 : Nat → FieldType := fun k => match k with
  | 0 => .int
  | 1 => .int
  | 2 => .int
  | 3 => .object "WorldDeltas$Entities"
  | _ => .array (.object "WorldDeltas$Client")
theorem nmX8 : ∀ a, a < 5 → ∀ b, b < 5 → a ≠ b → (TX8 a).2.1 ≠ (TX8 b).2.1 := by decide +kernel
theorem tyX8_ok : ∀ k, k < 5 → parseFieldDescriptor (TX8 k).2.2.1 = some (tyX8 k) := by decide +kernel
abbrev cX8_init : ByteArray := prog_10_method_1_code
def yX8_init : MethodName := ⟨RX8, "<init>", "()V"⟩
abbrev cX8_copyFrom : ByteArray := prog_10_method_2_code
def yX8_copyFrom : MethodName := ⟨RX8, "copyFrom", "(LWorldDeltas$World;)V"⟩
abbrev cX8_pass : ByteArray := prog_10_method_3_code
def yX8_pass : MethodName := ⟨RX8, "pass", "()V"⟩
def RX9 : String := "WorldDeltas"
def TX9 : u_T := fun k => match k with
  | 0 => ("WorldDeltas", "world", "LWorldDeltas$World;", true)
  | _ => ("WorldDeltas", "undoStack", "LWorldDeltas$UndoStack;", true)
def tyX9 : Nat → FieldType := fun k => match k with
  | 0 => .object "WorldDeltas$World"
  | _ => .object "WorldDeltas$UndoStack"
theorem nmX9 : ∀ a, a < 2 → ∀ b, b < 2 → a ≠ b → (TX9 a).2.1 ≠ (TX9 b).2.1 := by decide +kernel
theorem tyX9_ok : ∀ k, k < 2 → parseFieldDescriptor (TX9 k).2.2.1 = some (tyX9 k) := by decide +kernel
abbrev cX9_init : ByteArray := prog_1_method_1_code
def yX9_init : MethodName := ⟨RX9, "<init>", "()V"⟩
abbrev cX9_place : ByteArray := prog_1_method_2_code
def yX9_place : MethodName := ⟨RX9, "place", "(IIIII)Z"⟩
abbrev cX9_setVelocity : ByteArray := prog_1_method_3_code
def yX9_setVelocity : MethodName := ⟨RX9, "setVelocity", "(III)I"⟩
abbrev cX9_setHealth : ByteArray := prog_1_method_4_code
def yX9_setHealth : MethodName := ⟨RX9, "setHealth", "(II)I"⟩
abbrev cX9_destroy : ByteArray := prog_1_method_5_code
def yX9_destroy : MethodName := ⟨RX9, "destroy", "(I)I"⟩
abbrev cX9_entity : ByteArray := prog_1_method_6_code
def yX9_entity : MethodName := ⟨RX9, "entity", "(II)I"⟩
abbrev cX9_connect : ByteArray := prog_1_method_7_code
def yX9_connect : MethodName := ⟨RX9, "connect", "(IIIII)Z"⟩
abbrev cX9_look : ByteArray := prog_1_method_8_code
def yX9_look : MethodName := ⟨RX9, "look", "(IIII)I"⟩
abbrev cX9_disconnect : ByteArray := prog_1_method_9_code
def yX9_disconnect : MethodName := ⟨RX9, "disconnect", "(I)I"⟩
abbrev cX9_setTimes : ByteArray := prog_1_method_10_code
def yX9_setTimes : MethodName := ⟨RX9, "setTimes", "(II)I"⟩
abbrev cX9_lose : ByteArray := prog_1_method_11_code
def yX9_lose : MethodName := ⟨RX9, "lose", "(III)I"⟩
abbrev cX9_tick : ByteArray := prog_1_method_12_code
def yX9_tick : MethodName := ⟨RX9, "tick", "(I)I"⟩
abbrev cX9_time : ByteArray := prog_1_method_13_code
def yX9_time : MethodName := ⟨RX9, "time", "()I"⟩
abbrev cX9_copy : ByteArray := prog_1_method_14_code
def yX9_copy : MethodName := ⟨RX9, "copy", "(III)I"⟩
abbrev cX9_kept : ByteArray := prog_1_method_15_code
def yX9_kept : MethodName := ⟨RX9, "kept", "(III)I"⟩
abbrev cX9_count : ByteArray := prog_1_method_16_code
def yX9_count : MethodName := ⟨RX9, "count", "(II)I"⟩
abbrev cX9_stale : ByteArray := prog_1_method_17_code
def yX9_stale : MethodName := ⟨RX9, "stale", "(I)I"⟩
abbrev cX9_packet : ByteArray := prog_1_method_18_code
def yX9_packet : MethodName := ⟨RX9, "packet", "(III)I"⟩
abbrev cX9_entry : ByteArray := prog_1_method_19_code
def yX9_entry : MethodName := ⟨RX9, "entry", "(IIII)I"⟩
abbrev cX9_price : ByteArray := prog_1_method_20_code
def yX9_price : MethodName := ⟨RX9, "price", "(II)I"⟩
abbrev cX9_undo : ByteArray := prog_1_method_21_code
def yX9_undo : MethodName := ⟨RX9, "undo", "()I"⟩
abbrev cX9_digest : ByteArray := prog_1_method_22_code
def yX9_digest : MethodName := ⟨RX9, "digest", "()J"⟩
abbrev cX9_hashClient : ByteArray := prog_1_method_23_code
def yX9_hashClient : MethodName := ⟨RX9, "hashClient", "(JLWorldDeltas$Client;)J"⟩
abbrev cX9_hashClientEntity : ByteArray := prog_1_method_24_code
def yX9_hashClientEntity : MethodName := ⟨RX9, "hashClientEntity", "(JLWorldDeltas$Client;I)J"⟩
abbrev cX9_hashPacket : ByteArray := prog_1_method_25_code
def yX9_hashPacket : MethodName := ⟨RX9, "hashPacket", "(JLWorldDeltas$Packet;)J"⟩
abbrev cX9_checkEntity : ByteArray := prog_1_method_26_code
def yX9_checkEntity : MethodName := ⟨RX9, "checkEntity", "(I)V"⟩
abbrev cX9_checkRange : ByteArray := prog_1_method_27_code
def yX9_checkRange : MethodName := ⟨RX9, "checkRange", "(III)V"⟩
abbrev cX9_checkExists : ByteArray := prog_1_method_28_code
def yX9_checkExists : MethodName := ⟨RX9, "checkExists", "(I)V"⟩
abbrev cX9_clientOf : ByteArray := prog_1_method_29_code
def yX9_clientOf : MethodName := ⟨RX9, "clientOf", "(I)LWorldDeltas$Client;"⟩
abbrev cX9_checkConnected : ByteArray := prog_1_method_30_code
def yX9_checkConnected : MethodName := ⟨RX9, "checkConnected", "(LWorldDeltas$Client;)V"⟩
abbrev cX9_packetOf : ByteArray := prog_1_method_31_code
def yX9_packetOf : MethodName := ⟨RX9, "packetOf", "(LWorldDeltas$Client;I)LWorldDeltas$Packet;"⟩
def RX10 : String := "WorldDeltasModel"
def TX10 : u_T := fun k => match k with
  | 0 => ("WorldDeltasModel", "m", "[I", true)
  | 1 => ("WorldDeltasModel", "first", "[I", true)
  | 2 => ("WorldDeltasModel", "second", "[I", true)
  | 3 => ("WorldDeltasModel", "third", "[I", true)
  | 4 => ("WorldDeltasModel", "savedCount", "I", false)
  | 5 => ("WorldDeltasModel", "code", "I", false)
  | 6 => ("WorldDeltasModel", "isTried", "[Z", true)
  | _ => ("WorldDeltasModel", "hash", "J", false)
def tyX10 : Nat → FieldType := fun k => match k with
  | 0 => .array .int
  | 1 => .array .int
  | 2 => .array .int
  | 3 => .array .int
  | 4 => .int
  | 5 => .int
  | 6 => .array .boolean
  | _ => .long
theorem nmX10 : ∀ a, a < 8 → ∀ b, b < 8 → a ≠ b → (TX10 a).2.1 ≠ (TX10 b).2.1 := by decide +kernel
theorem tyX10_ok : ∀ k, k < 8 → parseFieldDescriptor (TX10 k).2.2.1 = some (tyX10 k) := by decide +kernel
abbrev cX10_init : ByteArray := prog_12_method_1_code
def yX10_init : MethodName := ⟨RX10, "<init>", "()V"⟩
abbrev cX10_thrown : ByteArray := prog_12_method_2_code
def yX10_thrown : MethodName := ⟨RX10, "thrown", "()I"⟩
abbrev cX10_fails : ByteArray := prog_12_method_3_code
def yX10_fails : MethodName := ⟨RX10, "fails", "(I)I"⟩
abbrev cX10_in : ByteArray := prog_12_method_4_code
def yX10_in : MethodName := ⟨RX10, "in", "(III)Z"⟩
abbrev cX10_size : ByteArray := prog_12_method_5_code
def yX10_size : MethodName := ⟨RX10, "size", "(I)I"⟩
abbrev cX10_copyAll : ByteArray := prog_12_method_6_code
def yX10_copyAll : MethodName := ⟨RX10, "copyAll", "([I[I)V"⟩
abbrev cX10_keep : ByteArray := prog_12_method_7_code
def yX10_keep : MethodName := ⟨RX10, "keep", "()V"⟩
abbrev cX10_packed : ByteArray := prog_12_method_8_code
def yX10_packed : MethodName := ⟨RX10, "packed", "(IIII)I"⟩
abbrev cX10_part : ByteArray := prog_12_method_9_code
def yX10_part : MethodName := ⟨RX10, "part", "(II)I"⟩
abbrev cX10_partOrZero : ByteArray := prog_12_method_10_code
def yX10_partOrZero : MethodName := ⟨RX10, "partOrZero", "(II)I"⟩
abbrev cX10_mask : ByteArray := prog_12_method_11_code
def yX10_mask : MethodName := ⟨RX10, "mask", "(II)I"⟩
abbrev cX10_mixed : ByteArray := prog_12_method_12_code
def yX10_mixed : MethodName := ⟨RX10, "mixed", "(III)I"⟩
abbrev cX10_bits : ByteArray := prog_12_method_13_code
def yX10_bits : MethodName := ⟨RX10, "bits", "(I)I"⟩
abbrev cX10_isEntity : ByteArray := prog_12_method_14_code
def yX10_isEntity : MethodName := ⟨RX10, "isEntity", "(I)Z"⟩
abbrev cX10_stateOf : ByteArray := prog_12_method_15_code
def yX10_stateOf : MethodName := ⟨RX10, "stateOf", "(I)I"⟩
abbrev cX10_exists : ByteArray := prog_12_method_16_code
def yX10_exists : MethodName := ⟨RX10, "exists", "(I)Z"⟩
abbrev cX10_isPosition : ByteArray := prog_12_method_17_code
def yX10_isPosition : MethodName := ⟨RX10, "isPosition", "(II)Z"⟩
abbrev cX10_place : ByteArray := prog_12_method_18_code
def yX10_place : MethodName := ⟨RX10, "place", "(IIIII)Z"⟩
abbrev cX10_setVelocity : ByteArray := prog_12_method_19_code
def yX10_setVelocity : MethodName := ⟨RX10, "setVelocity", "(III)I"⟩
abbrev cX10_setHealth : ByteArray := prog_12_method_20_code
def yX10_setHealth : MethodName := ⟨RX10, "setHealth", "(II)I"⟩
abbrev cX10_destroy : ByteArray := prog_12_method_21_code
def yX10_destroy : MethodName := ⟨RX10, "destroy", "(I)I"⟩
abbrev cX10_entityValue : ByteArray := prog_12_method_22_code
def yX10_entityValue : MethodName := ⟨RX10, "entityValue", "(II)I"⟩
abbrev cX10_entity : ByteArray := prog_12_method_23_code
def yX10_entity : MethodName := ⟨RX10, "entity", "(II)I"⟩
abbrev cX10_isClient : ByteArray := prog_12_method_24_code
def yX10_isClient : MethodName := ⟨RX10, "isClient", "(I)Z"⟩
abbrev cX10_cell : ByteArray := prog_12_method_25_code
def yX10_cell : MethodName := ⟨RX10, "cell", "(II)I"⟩
abbrev cX10_of : ByteArray := prog_12_method_26_code
def yX10_of : MethodName := ⟨RX10, "of", "(II)I"⟩
abbrev cX10_add : ByteArray := prog_12_method_27_code
def yX10_add : MethodName := ⟨RX10, "add", "(III)V"⟩
abbrev cX10_isConnected : ByteArray := prog_12_method_28_code
def yX10_isConnected : MethodName := ⟨RX10, "isConnected", "(I)Z"⟩
abbrev cX10_base : ByteArray := prog_12_method_29_code
def yX10_base : MethodName := ⟨RX10, "base", "(II)I"⟩
abbrev cX10_records : ByteArray := prog_12_method_30_code
def yX10_records : MethodName := ⟨RX10, "records", "(II)I"⟩
abbrev cX10_clear : ByteArray := prog_12_method_31_code
def yX10_clear : MethodName := ⟨RX10, "clear", "(I)V"⟩
abbrev cX10_aim : ByteArray := prog_12_method_32_code
def yX10_aim : MethodName := ⟨RX10, "aim", "(IIII)V"⟩
abbrev cX10_connect : ByteArray := prog_12_method_33_code
def yX10_connect : MethodName := ⟨RX10, "connect", "(IIIII)Z"⟩
abbrev cX10_distance : ByteArray := prog_12_method_34_code
def yX10_distance : MethodName := ⟨RX10, "distance", "(II)I"⟩
abbrev cX10_isInArea : ByteArray := prog_12_method_35_code
def yX10_isInArea : MethodName := ⟨RX10, "isInArea", "(II)Z"⟩
abbrev cX10_look : ByteArray := prog_12_method_36_code
def yX10_look : MethodName := ⟨RX10, "look", "(IIII)I"⟩
abbrev cX10_disconnect : ByteArray := prog_12_method_37_code
def yX10_disconnect : MethodName := ⟨RX10, "disconnect", "(I)I"⟩
abbrev cX10_setTimes : ByteArray := prog_12_method_38_code
def yX10_setTimes : MethodName := ⟨RX10, "setTimes", "(II)I"⟩
abbrev cX10_lose : ByteArray := prog_12_method_39_code
def yX10_lose : MethodName := ⟨RX10, "lose", "(III)I"⟩
abbrev cX10_moveOne : ByteArray := prog_12_method_40_code
def yX10_moveOne : MethodName := ⟨RX10, "moveOne", "(II)V"⟩
abbrev cX10_packetCell : ByteArray := prog_12_method_41_code
def yX10_packetCell : MethodName := ⟨RX10, "packetCell", "(II)I"⟩
abbrev cX10_addRecord : ByteArray := prog_12_method_42_code
def yX10_addRecord : MethodName := ⟨RX10, "addRecord", "(IIII)V"⟩
abbrev cX10_lastNumber : ByteArray := prog_12_method_43_code
def yX10_lastNumber : MethodName := ⟨RX10, "lastNumber", "(II)I"⟩
abbrev cX10_copyState : ByteArray := prog_12_method_44_code
def yX10_copyState : MethodName := ⟨RX10, "copyState", "(II)I"⟩
abbrev cX10_recordState : ByteArray := prog_12_method_45_code
def yX10_recordState : MethodName := ⟨RX10, "recordState", "(III)I"⟩
abbrev cX10_receiveEntry : ByteArray := prog_12_method_46_code
def yX10_receiveEntry : MethodName := ⟨RX10, "receiveEntry", "(III)V"⟩
abbrev cX10_receive : ByteArray := prog_12_method_47_code
def yX10_receive : MethodName := ⟨RX10, "receive", "(II)V"⟩
abbrev cX10_sweep : ByteArray := prog_12_method_48_code
def yX10_sweep : MethodName := ⟨RX10, "sweep", "(I)V"⟩
abbrev cX10_acknowledge : ByteArray := prog_12_method_49_code
def yX10_acknowledge : MethodName := ⟨RX10, "acknowledge", "(II)V"⟩
abbrev cX10_settle : ByteArray := prog_12_method_50_code
def yX10_settle : MethodName := ⟨RX10, "settle", "(III)V"⟩
abbrev cX10_arriveAll : ByteArray := prog_12_method_51_code
def yX10_arriveAll : MethodName := ⟨RX10, "arriveAll", "(I)V"⟩
abbrev cX10_giveUp : ByteArray := prog_12_method_52_code
def yX10_giveUp : MethodName := ⟨RX10, "giveUp", "(I)V"⟩
abbrev cX10_weight : ByteArray := prog_12_method_53_code
def yX10_weight : MethodName := ⟨RX10, "weight", "(I)I"⟩
abbrev cX10_raise : ByteArray := prog_12_method_54_code
def yX10_raise : MethodName := ⟨RX10, "raise", "(II)V"⟩
abbrev cX10_flying : ByteArray := prog_12_method_55_code
def yX10_flying : MethodName := ⟨RX10, "flying", "(I)I"⟩
abbrev cX10_priceOf : ByteArray := prog_12_method_56_code
def yX10_priceOf : MethodName := ⟨RX10, "priceOf", "(II)I"⟩
abbrev cX10_nextByPriority : ByteArray := prog_12_method_57_code
def yX10_nextByPriority : MethodName := ⟨RX10, "nextByPriority", "(I)I"⟩
abbrev cX10_putEntry : ByteArray := prog_12_method_58_code
def yX10_putEntry : MethodName := ⟨RX10, "putEntry", "(III)V"⟩
abbrev cX10_send : ByteArray := prog_12_method_59_code
def yX10_send : MethodName := ⟨RX10, "send", "(I)V"⟩
abbrev cX10_launch : ByteArray := prog_12_method_60_code
def yX10_launch : MethodName := ⟨RX10, "launch", "(II)V"⟩
abbrev cX10_serve : ByteArray := prog_12_method_61_code
def yX10_serve : MethodName := ⟨RX10, "serve", "(I)V"⟩
abbrev cX10_tickOne : ByteArray := prog_12_method_62_code
def yX10_tickOne : MethodName := ⟨RX10, "tickOne", "()V"⟩
abbrev cX10_tick : ByteArray := prog_12_method_63_code
def yX10_tick : MethodName := ⟨RX10, "tick", "(I)I"⟩
abbrev cX10_time : ByteArray := prog_12_method_64_code
def yX10_time : MethodName := ⟨RX10, "time", "()I"⟩
abbrev cX10_copyValue : ByteArray := prog_12_method_65_code
def yX10_copyValue : MethodName := ⟨RX10, "copyValue", "(III)I"⟩
abbrev cX10_copy : ByteArray := prog_12_method_66_code
def yX10_copy : MethodName := ⟨RX10, "copy", "(III)I"⟩
abbrev cX10_keptValue : ByteArray := prog_12_method_67_code
def yX10_keptValue : MethodName := ⟨RX10, "keptValue", "(III)I"⟩
abbrev cX10_kept : ByteArray := prog_12_method_68_code
def yX10_kept : MethodName := ⟨RX10, "kept", "(III)I"⟩
abbrev cX10_countOf : ByteArray := prog_12_method_69_code
def yX10_countOf : MethodName := ⟨RX10, "countOf", "(II)I"⟩
abbrev cX10_count : ByteArray := prog_12_method_70_code
def yX10_count : MethodName := ⟨RX10, "count", "(II)I"⟩
abbrev cX10_staleOf : ByteArray := prog_12_method_71_code
def yX10_staleOf : MethodName := ⟨RX10, "staleOf", "(I)I"⟩
abbrev cX10_stale : ByteArray := prog_12_method_72_code
def yX10_stale : MethodName := ⟨RX10, "stale", "(I)I"⟩
abbrev cX10_flyingCell : ByteArray := prog_12_method_73_code
def yX10_flyingCell : MethodName := ⟨RX10, "flyingCell", "(II)I"⟩
abbrev cX10_packetValue : ByteArray := prog_12_method_74_code
def yX10_packetValue : MethodName := ⟨RX10, "packetValue", "(II)I"⟩
abbrev cX10_packet : ByteArray := prog_12_method_75_code
def yX10_packet : MethodName := ⟨RX10, "packet", "(III)I"⟩
abbrev cX10_entryValue : ByteArray := prog_12_method_76_code
def yX10_entryValue : MethodName := ⟨RX10, "entryValue", "(III)I"⟩
abbrev cX10_entry : ByteArray := prog_12_method_77_code
def yX10_entry : MethodName := ⟨RX10, "entry", "(IIII)I"⟩
abbrev cX10_price : ByteArray := prog_12_method_78_code
def yX10_price : MethodName := ⟨RX10, "price", "(II)I"⟩
abbrev cX10_undo : ByteArray := prog_12_method_79_code
def yX10_undo : MethodName := ⟨RX10, "undo", "()I"⟩
abbrev cX10_mix : ByteArray := prog_12_method_80_code
def yX10_mix : MethodName := ⟨RX10, "mix", "(J)V"⟩
abbrev cX10_mixClient : ByteArray := prog_12_method_81_code
def yX10_mixClient : MethodName := ⟨RX10, "mixClient", "(I)V"⟩
abbrev cX10_mixEntity : ByteArray := prog_12_method_82_code
def yX10_mixEntity : MethodName := ⟨RX10, "mixEntity", "(IIZ)V"⟩
abbrev cX10_mixPacket : ByteArray := prog_12_method_83_code
def yX10_mixPacket : MethodName := ⟨RX10, "mixPacket", "(I)V"⟩
abbrev cX10_digest : ByteArray := prog_12_method_84_code
def yX10_digest : MethodName := ⟨RX10, "digest", "()J"⟩
def RJ6 : String := "java/lang/Integer"
abbrev cJ6_bitCount_0f7a4 : ByteArray := prog_17_method_49_code
def yJ6_bitCount_0f7a4 : MethodName := ⟨RJ6, "bitCount", "(I)I"⟩
def RJ9 : String := "java/lang/Math"
abbrev cJ9_abs_0f7a4 : ByteArray := prog_18_method_59_code
def yJ9_abs_0f7a4 : MethodName := ⟨RJ9, "abs", "(I)I"⟩
abbrev cJ9_max_7cf53 : ByteArray := prog_18_method_65_code
def yJ9_max_7cf53 : MethodName := ⟨RJ9, "max", "(II)I"⟩
def RJ0 : String := "java/lang/String"
def RJ10 : String := "java/lang/System"
def RL : String := "WorldDeltasLaw"
abbrev cL_place : ByteArray := method_3_code
def yL_place : MethodName := ⟨RL, "place", "(LWorldDeltas;IIIII[J)I"⟩
abbrev cL_setVelocity : ByteArray := method_4_code
def yL_setVelocity : MethodName := ⟨RL, "setVelocity", "(LWorldDeltas;III[J)I"⟩
abbrev cL_setHealth : ByteArray := method_5_code
def yL_setHealth : MethodName := ⟨RL, "setHealth", "(LWorldDeltas;II[J)I"⟩
abbrev cL_destroy : ByteArray := method_6_code
def yL_destroy : MethodName := ⟨RL, "destroy", "(LWorldDeltas;I[J)I"⟩
abbrev cL_entity : ByteArray := method_7_code
def yL_entity : MethodName := ⟨RL, "entity", "(LWorldDeltas;II[J)I"⟩
abbrev cL_connect : ByteArray := method_8_code
def yL_connect : MethodName := ⟨RL, "connect", "(LWorldDeltas;IIIII[J)I"⟩
abbrev cL_look : ByteArray := method_9_code
def yL_look : MethodName := ⟨RL, "look", "(LWorldDeltas;IIII[J)I"⟩
abbrev cL_disconnect : ByteArray := method_10_code
def yL_disconnect : MethodName := ⟨RL, "disconnect", "(LWorldDeltas;I[J)I"⟩
abbrev cL_setTimes : ByteArray := method_11_code
def yL_setTimes : MethodName := ⟨RL, "setTimes", "(LWorldDeltas;II[J)I"⟩
abbrev cL_lose : ByteArray := method_12_code
def yL_lose : MethodName := ⟨RL, "lose", "(LWorldDeltas;III[J)I"⟩
abbrev cL_tick : ByteArray := method_13_code
def yL_tick : MethodName := ⟨RL, "tick", "(LWorldDeltas;I[J)I"⟩
abbrev cL_copy : ByteArray := method_14_code
def yL_copy : MethodName := ⟨RL, "copy", "(LWorldDeltas;III[J)I"⟩
abbrev cL_kept : ByteArray := method_15_code
def yL_kept : MethodName := ⟨RL, "kept", "(LWorldDeltas;III[J)I"⟩
abbrev cL_count : ByteArray := method_16_code
def yL_count : MethodName := ⟨RL, "count", "(LWorldDeltas;II[J)I"⟩
abbrev cL_stale : ByteArray := method_17_code
def yL_stale : MethodName := ⟨RL, "stale", "(LWorldDeltas;I[J)I"⟩
abbrev cL_packet : ByteArray := method_18_code
def yL_packet : MethodName := ⟨RL, "packet", "(LWorldDeltas;III[J)I"⟩
abbrev cL_entry : ByteArray := method_19_code
def yL_entry : MethodName := ⟨RL, "entry", "(LWorldDeltas;IIII[J)I"⟩
abbrev cL_price : ByteArray := method_20_code
def yL_price : MethodName := ⟨RL, "price", "(LWorldDeltas;II[J)I"⟩
abbrev cL_undo : ByteArray := method_21_code
def yL_undo : MethodName := ⟨RL, "undo", "(LWorldDeltas;[J)I"⟩
abbrev cL_law : ByteArray := code
def yL_law : MethodName := ⟨RL, "law", "([I)Z"⟩
abbrev vwCl : List vw_C := [(RX0, TX0, 3), (RX1, TX1, 16), (RX2, TX2, 3), (RX3, TX3, 10), (RX4, TX4, 2), (RX5, TX5, 3), (RX7, TX7, 2), (RX8, TX8, 5), (RX9, TX9, 2), (RX10, TX10, 8)]
end
section
/-! A SECOND READING OF THE BYTECODE: a machine of its own over typed values and a memory of two indices (address, place), whose runs are told as propositions ('stp': one instruction; 'vc': as far as the next cut). Part 06 shows that what it says holds of the machine. -/
/-- a value: an int, a long, or a reference with the kind of its cell -/
abbrev TV : Type := Int32 ⊕ (Int64 ⊕ (Nat × Nat))
def tvV : TV → Value
  | .inl x => .int x
  | .inr (.inl x) => .long x
  | .inr (.inr q) => .ref q.2
def tvC : TV → Nat
  | .inr (.inl _) => 2
  | _ => 1
/-- the memory: ints, references, longs by address and place; each address's kind; the heap's size -/
abbrev MM : Type := (Nat → Nat → Int32) × (Nat → Nat → Nat) × (Nat → Nat → Int64) × (Nat → Nat) × Nat
/-- how a call ends: it returns (a value), or throws (1: index, 2: argument, 3: state) -/
abbrev OC : Type := Option TV ⊕ Nat
abbrev SPc : Type := List TV → MM → (OC → MM → Prop) → Prop
/-- pc, instruction, its length, what the tables say of it -/
abbrev Ent : Type := Nat × Instr × Nat × List Nat
abbrev LC : Type := List (Option TV)
abbrev GC : Type := List Ent → LC → List TV → MM → Nat → Nat → Prop
/-- a kind: an object (its class's number, its fields: 0 int (1: boolean), 1 long, 2 null as yet, j + 3 a cell of kind j that far behind it) or an array (0 int, 1 boolean, 2 long, t + 3 references; length; the elements' kind; how far the first lies and how far apart, 0: kept in the memory) -/
abbrev KD : Type := (Nat × List (Nat × Nat)) ⊕ (Nat × Nat × Nat × Nat × Nat)
def up2 {α : Type} (f : Nat → Nat → α) (a j : Nat) (v : α) : Nat → Nat → α := fun b k => if b = a ∧ k = j then v else f b k
def up1 {α : Type} (f : Nat → α) (a : Nat) (v : α) : Nat → α := fun b => if b = a then v else f b
/-- a row of ints copied onto another -/
def cpR (f : Nat → Nat → Int32) (a0 sp a dp n : Nat) : Nat → Nat → Int32 := fun b k => if b = a ∧ dp ≤ k ∧ k < dp + n then f a0 (sp + (k - dp)) else f b k
/-- what a cell at that address would hold, nothing -/
def clr {α : Type} (f : Nat → Nat → α) (a : Nat) (v : α) : Nat → Nat → α := fun b k => if b = a then v else f b k
/-- old rows of ints that nobody writes: the script 90, State.SHIFTS 91, State.MASKS 92: their lengths and what they hold -/
abbrev OT : Type := (Nat → Nat) × (Nat → Nat → Int32)
def goTo : List Ent → Nat → List Ent
  | [], _ => []
  | e :: r, t => if e.1 = t then e :: r else goTo r t
/-- a callee: name, bytes, locals, what it returns, how many values it takes, its room (frames, cells, slots, words), how it is called (0 static, 2 a constructor, 3 a nest mate's constructor, 4 static with a table, 10 and more: virtual, with its class's number), its table, what it does -/
abbrev CI : Type := MethodName × ByteArray × Nat × Option FieldType × Nat × (Nat × Nat × Nat × Nat) × Nat × List (Nat × Nat × Nat × Nat) × SPc
def lkC : List (Nat × CI) → Nat → Option CI
  | [], _ => none
  | q :: r, i => if q.1 = i then some q.2 else lkC r i
def ifP (c : ClassFile.Cond) (x : Int32) : Prop := match c with
  | .eq => x = 0
  | .ne => ¬ x = 0
  | .lt => x < 0
  | .ge => 0 ≤ x
  | .gt => 0 < x
  | .le => x ≤ 0
def icP (c : ClassFile.Cond) (x y : Int32) : Prop := match c with
  | .eq => x = y
  | .ne => ¬ x = y
  | .lt => x < y
  | .ge => y ≤ x
  | .gt => y < x
  | .le => x ≤ y
def getL (lc : LC) (i : Nat) : Option TV := match lc[i]? with
  | some (some v) => some v
  | _ => none
/-- storing: a long that stood half under the place goes -/
def setL (lc : LC) (i : Nat) (v : TV) : LC := match i with
  | 0 => if tvC v = 2 then (lc.set 0 (some v)).set 1 none else lc.set 0 (some v)
  | j + 1 => match getL lc j with
    | some (.inr (.inl _)) => if tvC v = 2 then ((lc.set j none).set (j + 1) (some v)).set (j + 2) none else (lc.set j none).set (j + 1) (some v)
    | _ => if tvC v = 2 then (lc.set (j + 1) (some v)).set (j + 2) none else lc.set (j + 1) (some v)
/-- the room of a call or a new cell -/
def rmP (R : Nat × Nat) (mc ms ce sl : Nat) (P : Prop) : Prop := match mc with
  | 0 => P
  | k + 1 => (ce + (k + 1) ≤ R.1 ∧ sl + ms ≤ R.2) ∧ P
/-- no cell of kind k on a stack, in the locals -/
def nkV (k : Nat) : TV → Bool
  | .inr (.inr q) => ! Nat.beq q.1 k
  | _ => true
def nkS (k : Nat) : List TV → Bool
  | [] => true
  | v :: st => nkV k v && nkS k st
def nkL (k : Nat) : LC → Bool
  | [] => true
  | none :: lc => nkL k lc
  | some v :: lc => nkV k v && nkL k lc
section VC
variable (KT : Nat → KD) (ot : OT) (code : List Ent) (ct : List (Nat × CI)) (hn : List (Nat × Nat × Nat × Nat)) (R : Nat × Nat) (rz : Bool) (z0 : Nat) (xo : Option Nat)
def fldK (k ci f : Nat) : Option (Nat × Nat) := match KT k with
  | .inl (c, fs) => if c = ci then fs[f]? else none
  | .inr _ => none
def arrK (k : Nat) : Option (Nat × Nat × Nat × Nat × Nat) := match KT k with
  | .inl _ => none
  | .inr q => some q
/-- where a throw is caught here: the rows of the table in their order -/
def catR : List (Nat × Nat × Nat × Nat) → Nat → Nat → Option Nat
  | [], _, _ => none
  | (a, b, h, e') :: r, pc, e => if a ≤ pc ∧ pc < b ∧ e' = e then some h else catR r pc e
/-- behind a call -/
def aftC (G : GC) (Rt : OC → MM → Prop) (pc : Nat) (rest : List Ent) (lc : LC) (st : List TV) (ce sl : Nat) : OC → MM → Prop := fun o μ => match o with
  | .inl none => G rest lc st μ ce sl
  | .inl (some v) => G rest lc (v :: st) μ ce sl
  | .inr e => match catR hn pc e with
    | some h => ∀ q : Nat, G (goTo code h) lc [.inr (.inr (94, q))] μ ce sl
    | none => match hn with
      | [] => Rt (.inr e) μ
      | _ => False
/-- a virtual call's receiver is of the class that the callee's row names -/
def rcvK (mode n : Nat) (st : List TV) : Bool := match mode with
  | c + 10 => match st.drop (n - 1) with
    | .inr (.inr (k, _)) :: _ => match KT k with
      | .inl (ci, _) => Nat.beq ci c
      | .inr _ => false
    | _ => false
  | _ => true
/-- a call -/
def calR (G : GC) (Rt : OC → MM → Prop) (ci : CI) (pc : Nat) (rest : List Ent) (lc : LC) (st : List TV) (μ : MM) (ce sl : Nat) : Prop := match ci with
  | (_, _, _, _, n, (_, mc, ms, _), mode, _, sp) =>
    if n ≤ st.length ∧ rcvK KT mode n st = true ∧ ((st.drop n).map tvC).sum ≤ 8 then rmP R mc ms ce sl (sp (st.take n).reverse μ (aftC code hn G Rt pc rest lc (st.drop n) (ce + mc) (sl + ms))) else False
/-- a constructor's call: what lay twice on the stack bears its new kind behind it (given in the tables) -/
def ctoR (G : GC) (Rt : OC → MM → Prop) (ci : CI) (k1 : Nat) (pc : Nat) (rest : List Ent) (lc : LC) (st : List TV) (μ : MM) (ce sl : Nat) : Prop := match ci with
  | (_, _, _, _, n, (_, mc, ms, _), _, _, sp) => match st with
    | .inr (.inr (k, a)) :: .inr (.inr (k', a')) :: st' =>
      if n = 1 ∧ k = k' ∧ k < 90 ∧ nkS k st' = true ∧ nkL k lc = true ∧ ((Value.ref a' :: st'.map tvV).map fun v => v.category).sum ≤ 8 then a' = a ∧ (xo = some a ∨ z0 ≤ a) ∧ rmP R mc ms ce sl (sp [.inr (.inr (k, a))] μ (fun o μ' => match o with
        | .inl none => μ'.2.2.2.1 a = k1 ∧ G rest lc (.inr (.inr (k1, a)) :: st') μ' (ce + mc) (sl + ms)
        | _ => False)) else False
    | _ => False
def swR (G : GC) (lc : LC) (st : List TV) (μ : MM) (ce sl : Nat) (x : Int32) : Int → List Nat → Prop
  | _, [] => True
  | i, t :: ts => (x.toInt = i → G (goTo code t) lc st μ ce sl) ∧ swR G lc st μ ce sl x (i + 1) ts
def luR (G : GC) (lc : LC) (st : List TV) (μ : MM) (ce sl : Nat) (x : Int32) (d : Nat) : List (Int × Int) → List Nat → Prop
  | [], [] => G (goTo code d) lc st μ ce sl
  | q :: qs, t :: ts => (x.toInt = q.1 → G (goTo code t) lc st μ ce sl) ∧ (¬ x.toInt = q.1 → luR G lc st μ ce sl x d qs ts)
  | _, _ => False
/-- one instruction: 'G' what holds at the next, 'Rt' at the method's end -/
def stp (G : GC) (Rt : OC → MM → Prop) (e : Ent) (rest : List Ent) (lc : LC) (st : List TV) (μ : MM) (ce sl : Nat) : Prop := match e with
  | (pc, i, _, an) => match i with
    | .iconst k => G rest lc (.inl (Int32.ofInt k) :: st) μ ce sl
    | .bipush k => G rest lc (.inl (Int32.ofInt k) :: st) μ ce sl
    | .sipush k => G rest lc (.inl (Int32.ofInt k) :: st) μ ce sl
    | .lconst k => G rest lc (.inr (.inl (Int64.ofNat (k : Nat))) :: st) μ ce sl
    | .ldc _ => match an with
      | [_, _, v] => G rest lc (.inl (Int32.ofNat v) :: st) μ ce sl
      | _ => False
    | .ldc_w _ => match an with
      | [_, _, v] => G rest lc (.inl (Int32.ofNat v) :: st) μ ce sl
      | _ => False
    | .ldc2_w _ => match an with
      | [_, _, v] => G rest lc (.inr (.inl (Int64.ofNat v)) :: st) μ ce sl
      | _ => False
    | .iload i => match getL lc i with
      | some (.inl x) => G rest lc (.inl x :: st) μ ce sl
      | _ => False
    | .iload_n i => match getL lc i with
      | some (.inl x) => G rest lc (.inl x :: st) μ ce sl
      | _ => False
    | .lload i => match getL lc i with
      | some (.inr (.inl x)) => G rest lc (.inr (.inl x) :: st) μ ce sl
      | _ => False
    | .lload_n i => match getL lc i with
      | some (.inr (.inl x)) => G rest lc (.inr (.inl x) :: st) μ ce sl
      | _ => False
    | .aload i => match getL lc i with
      | some (.inr (.inr x)) => G rest lc (.inr (.inr x) :: st) μ ce sl
      | _ => False
    | .aload_n i => match getL lc i with
      | some (.inr (.inr x)) => G rest lc (.inr (.inr x) :: st) μ ce sl
      | _ => False
    | .istore i => match st with
      | .inl x :: st => if i < lc.length then G rest (setL lc i (.inl x)) st μ ce sl else False
      | _ => False
    | .istore_n i => match st with
      | .inl x :: st => if (i : Nat) < lc.length then G rest (setL lc i (.inl x)) st μ ce sl else False
      | _ => False
    | .lstore i => match st with
      | .inr (.inl x) :: st => if i + 1 < lc.length then G rest (setL lc i (.inr (.inl x))) st μ ce sl else False
      | _ => False
    | .lstore_n i => match st with
      | .inr (.inl x) :: st => if (i : Nat) + 1 < lc.length then G rest (setL lc i (.inr (.inl x))) st μ ce sl else False
      | _ => False
    | .astore i => match st with
      | .inr (.inr x) :: st => if i < lc.length then G rest (setL lc i (.inr (.inr x))) st μ ce sl else False
      | _ => False
    | .astore_n i => match st with
      | .inr (.inr x) :: st => if (i : Nat) < lc.length then G rest (setL lc i (.inr (.inr x))) st μ ce sl else False
      | _ => False
    | .iinc i k => match getL lc i with
      | some (.inl x) => if i < lc.length then G rest (setL lc i (.inl (x + Int32.ofInt k))) st μ ce sl else False
      | _ => False
    | .iadd => match st with
      | .inl y :: .inl x :: st => G rest lc (.inl (x + y) :: st) μ ce sl
      | _ => False
    | .isub => match st with
      | .inl y :: .inl x :: st => G rest lc (.inl (x - y) :: st) μ ce sl
      | _ => False
    | .imul => match st with
      | .inl y :: .inl x :: st => G rest lc (.inl (x * y) :: st) μ ce sl
      | _ => False
    | .idiv => match st with
      | .inl y :: .inl x :: st => ¬ y = 0 ∧ G rest lc (.inl (x / y) :: st) μ ce sl
      | _ => False
    | .irem => match st with
      | .inl y :: .inl x :: st => ¬ y = 0 ∧ G rest lc (.inl (x % y) :: st) μ ce sl
      | _ => False
    | .ineg => match st with
      | .inl x :: st => G rest lc (.inl (-x) :: st) μ ce sl
      | _ => False
    | .iand => match st with
      | .inl y :: .inl x :: st => G rest lc (.inl (x &&& y) :: st) μ ce sl
      | _ => False
    | .ior => match st with
      | .inl y :: .inl x :: st => G rest lc (.inl (x ||| y) :: st) μ ce sl
      | _ => False
    | .ishl => match st with
      | .inl y :: .inl x :: st => G rest lc (.inl (x <<< (y &&& 31)) :: st) μ ce sl
      | _ => False
    | .ishr => match st with
      | .inl y :: .inl x :: st => G rest lc (.inl (x >>> (y &&& 31)) :: st) μ ce sl
      | _ => False
    | .iushr => match st with
      | .inl y :: .inl x :: st => G rest lc (.inl (x.toUInt32 >>> (y.toUInt32 &&& Int32.toUInt32 31)).toInt32 :: st) μ ce sl
      | _ => False
    | .i2l => match st with
      | .inl x :: st => G rest lc (.inr (.inl x.toInt64) :: st) μ ce sl
      | _ => False
    | .ladd => match st with
      | .inr (.inl y) :: .inr (.inl x) :: st => G rest lc (.inr (.inl (x + y)) :: st) μ ce sl
      | _ => False
    | .lmul => match st with
      | .inr (.inl y) :: .inr (.inl x) :: st => G rest lc (.inr (.inl (x * y)) :: st) μ ce sl
      | _ => False
    | .lcmp => match st with
      | .inr (.inl y) :: .inr (.inl x) :: st => G rest lc (.inl (lg_cmp x y) :: st) μ ce sl
      | _ => False
    | .dup => match st with
      | .inl x :: st => G rest lc (.inl x :: .inl x :: st) μ ce sl
      | .inr (.inr x) :: st => G rest lc (.inr (.inr x) :: .inr (.inr x) :: st) μ ce sl
      | _ => False
    | .dup2 => match st with
      | .inl x :: .inr (.inr y) :: st => G rest lc (.inl x :: .inr (.inr y) :: .inl x :: .inr (.inr y) :: st) μ ce sl
      | _ => False
    | .goto _ => match an with
      | [t] => G (goTo code t) lc st μ ce sl
      | _ => False
    | .ifCond c _ => match st, an with
      | .inl x :: st, [t] => (ifP c x → G (goTo code t) lc st μ ce sl) ∧ (¬ ifP c x → G rest lc st μ ce sl)
      | _, _ => False
    | .if_icmp c _ => match st, an with
      | .inl y :: .inl x :: st, [t] => (icP c x y → G (goTo code t) lc st μ ce sl) ∧ (¬ icP c x y → G rest lc st μ ce sl)
      | _, _ => False
    | .tableswitch _ lo hi _ => match st, an with
      | .inl x :: st, d :: ts => ((x.toInt < lo ∨ hi < x.toInt) → G (goTo code d) lc st μ ce sl) ∧ swR code G lc st μ ce sl x lo ts
      | _, _ => False
    | .lookupswitch _ ps => match st, an with
      | .inl x :: st, d :: ts => luR code G lc st μ ce sl x d ps.toList ts
      | _, _ => False
    | .getstatic _ => match an with
      | [k, _, _] => ∀ a : Nat, G rest lc (.inr (.inr (k, a)) :: st) μ ce sl
      | _ => False
    | .getfield _ => match st, an with
      | .inr (.inr (k, a)) :: st, [ci, f, _, _] => match fldK KT k ci f with
        | some (0, _) => G rest lc (.inl (μ.1 a f) :: st) μ ce sl
        | some (1, _) => G rest lc (.inr (.inl (μ.2.2.1 a f)) :: st) μ ce sl
        | some (j + 3, o) => G rest lc (.inr (.inr (j, a + o)) :: st) μ ce sl
        | _ => False
      | _, _ => False
    | .putfield _ => match st, an with
      | .inl x :: .inr (.inr (k, a)) :: st, [ci, f, _, _] => match fldK KT k ci f with
        | some (0, 0) => G rest lc st (up2 μ.1 a f x, μ.2) ce sl
        | some (0, 1) => (x = 0 ∨ x = 1) ∧ G rest lc st (up2 μ.1 a f x, μ.2) ce sl
        | _ => False
      | .inr (.inl x) :: .inr (.inr (k, a)) :: st, [ci, f, _, _] => match fldK KT k ci f with
        | some (1, _) => G rest lc st (μ.1, μ.2.1, up2 μ.2.2.1 a f x, μ.2.2.2) ce sl
        | _ => False
      | .inr (.inr (kv, b)) :: .inr (.inr (k, a)) :: st, [ci, f, _, _, k1, k0] => match fldK KT k ci f, fldK KT k1 ci f, getL lc 0, st with
        | some (2, _), some (j + 3, o), some (.inr (.inr (k', a'))), [] => if k' = k ∧ k = k0 ∧ kv = j ∧ nkL k lc.tail = true then a' = a ∧ b = a + o ∧ (xo = some a ∨ z0 ≤ a) ∧ G rest (lc.set 0 (some (.inr (.inr (k1, a))))) [] (μ.1, μ.2.1, μ.2.2.1, up1 μ.2.2.2.1 a k1, μ.2.2.2.2) ce sl else False
        | _, _, _, _ => False
      | _, _ => False
    | .arraylength => match st with
      | .inr (.inr (90, _)) :: st => G rest lc (.inl (Int32.ofNat (ot.1 90)) :: st) μ ce sl
      | _ => False
    | .iaload => match st with
      | .inl i :: .inr (.inr (90, _)) :: st => ∃ j : Nat, i = nI j ∧ j < ot.1 90 ∧ G rest lc (.inl (ot.2 90 j) :: st) μ ce sl
      | .inl i :: .inr (.inr (91, _)) :: st => ∃ j : Nat, i = nI j ∧ j < ot.1 91 ∧ G rest lc (.inl (ot.2 91 j) :: st) μ ce sl
      | .inl i :: .inr (.inr (92, _)) :: st => ∃ j : Nat, i = nI j ∧ j < ot.1 92 ∧ G rest lc (.inl (ot.2 92 j) :: st) μ ce sl
      | .inl i :: .inr (.inr (k, a)) :: st => match arrK KT k with
        | some (0, n, _) => ∃ j : Nat, i = nI j ∧ j < n ∧ G rest lc (.inl (μ.1 a j) :: st) μ ce sl
        | _ => False
      | _ => False
    | .baload => match st with
      | .inl i :: .inr (.inr (k, a)) :: st => match arrK KT k with
        | some (1, n, _) => ∃ j : Nat, i = nI j ∧ j < n ∧ G rest lc (.inl (μ.1 a j) :: st) μ ce sl
        | _ => False
      | _ => False
    | .laload => match st with
      | .inl i :: .inr (.inr (k, a)) :: st => match arrK KT k with
        | some (2, n, _) => ∃ j : Nat, i = nI j ∧ j < n ∧ G rest lc (.inr (.inl (μ.2.2.1 a j)) :: st) μ ce sl
        | _ => False
      | _ => False
    | .aaload => match st with
      | .inl i :: .inr (.inr (k, a)) :: st => match arrK KT k with
        | some (_ + 3, n, ek, _, 0) => ∃ j : Nat, i = nI j ∧ j < n ∧ j < μ.2.1 a n ∧ G rest lc (.inr (.inr (ek, μ.2.1 a j)) :: st) μ ce sl
        | some (_ + 3, n, ek, o, d + 1) => ∃ j : Nat, i = nI j ∧ j < n ∧ j < μ.2.1 a n ∧ G rest lc (.inr (.inr (ek, a + o + (d + 1) * j)) :: st) μ ce sl
        | _ => False
      | _ => False
    | .iastore => match st with
      | .inl x :: .inl i :: .inr (.inr (k, a)) :: st => match arrK KT k with
        | some (0, n, _) => ∃ j : Nat, i = nI j ∧ j < n ∧ G rest lc st (up2 μ.1 a j x, μ.2) ce sl
        | _ => False
      | _ => False
    | .bastore => match st with
      | .inl x :: .inl i :: .inr (.inr (k, a)) :: st => match arrK KT k with
        | some (1, n, _) => ∃ j : Nat, i = nI j ∧ j < n ∧ (x = 0 ∨ x = 1) ∧ G rest lc st (up2 μ.1 a j x, μ.2) ce sl
        | _ => False
      | _ => False
    | .lastore => match st with
      | .inr (.inl x) :: .inl i :: .inr (.inr (k, a)) :: st => match arrK KT k with
        | some (2, n, _) => ∃ j : Nat, i = nI j ∧ j < n ∧ G rest lc st (μ.1, μ.2.1, up2 μ.2.2.1 a j x, μ.2.2.2) ce sl
        | _ => False
      | _ => False
    | .aastore => match st with
      | .inr (.inr (kv, b)) :: .inl i :: .inr (.inr (k, a)) :: st => match arrK KT k with
        | some (_ + 3, n, ek, _, 0) => if kv = ek then ∃ j : Nat, i = nI j ∧ j < n ∧ ((j < μ.2.1 a n ∧ G rest lc st (μ.1, up2 μ.2.1 a j b, μ.2.2) ce sl) ∨ (j = μ.2.1 a n ∧ G rest lc st (μ.1, up2 (up2 μ.2.1 a j b) a n (j + 1), μ.2.2) ce sl)) else False
        | some (_ + 3, n, ek, o, d + 1) => if kv = ek then ∃ j : Nat, i = nI j ∧ j < n ∧ j = μ.2.1 a n ∧ b = a + o + (d + 1) * j ∧ G rest lc st (μ.1, up2 μ.2.1 a n (j + 1), μ.2.2) ce sl else False
        | _ => False
      | _ => False
    | .new _ => match an with
      | [0, e, _] => match st with
        | [] => (ce + 1 ≤ R.1 ∧ sl + 6 ≤ R.2) ∧ ∀ z : Nat, μ.2.2.2.2 ≤ z → Rt (.inr e) (μ.1, μ.2.1, μ.2.2.1, μ.2.2.2.1, z)
        | _ => False
      | [1, k, n, _, _, _, _, _, _] => (ce + 1 ≤ R.1 ∧ sl + n ≤ R.2) ∧ G rest lc (.inr (.inr (k, μ.2.2.2.2)) :: st) (clr μ.1 μ.2.2.2.2 0, μ.2.1, clr μ.2.2.1 μ.2.2.2.2 0, up1 μ.2.2.2.1 μ.2.2.2.2 k, μ.2.2.2.2 + 1) (ce + 1) (sl + n)
      | _ => False
    | .newarray _ => match st, an with
      | .inl x :: st, [k, n, _, _] => x = Int32.ofNat n ∧ (ce + 1 ≤ R.1 ∧ sl + n ≤ R.2) ∧ G rest lc (.inr (.inr (k, μ.2.2.2.2)) :: st) (clr μ.1 μ.2.2.2.2 0, μ.2.1, clr μ.2.2.1 μ.2.2.2.2 0, up1 μ.2.2.2.1 μ.2.2.2.2 k, μ.2.2.2.2 + 1) (ce + 1) (sl + n)
      | _, _ => False
    | .anewarray _ => match st, an with
      | .inl x :: st, [k, n, _, _, _, _] => x = Int32.ofNat n ∧ (ce + 1 ≤ R.1 ∧ sl + n ≤ R.2) ∧ G rest lc (.inr (.inr (k, μ.2.2.2.2)) :: st) (μ.1, up2 μ.2.1 μ.2.2.2.2 n 0, μ.2.2.1, up1 μ.2.2.2.1 μ.2.2.2.2 k, μ.2.2.2.2 + 1) (ce + 1) (sl + n)
      | _, _ => False
    | .invokevirtual ix => match lkC ct ix with
      | some ci => calR KT code hn R G Rt ci pc rest lc st μ ce sl
      | none => False
    | .invokestatic ix => match an with
      | 0 :: _ => match st with
        | .inl n :: .inl dp :: .inr (.inr (k, a)) :: .inl sp :: .inr (.inr (k0, a0)) :: st => match arrK KT k0, arrK KT k with
          | some (0, n0, _), some (0, n1, _) => if (st.map tvC).sum = 0 ∧ k0 < 90 ∧ k < 90 then ∃ i0 i1 m : Nat, sp = nI i0 ∧ dp = nI i1 ∧ n = nI m ∧ i0 + m ≤ n0 ∧ i1 + m ≤ n1 ∧ G rest lc st (cpR μ.1 a0 i0 a i1 m, μ.2) ce sl else False
          | _, _ => False
        | _ => False
      | 2 :: _ => match st with
        | .inl x :: st => if (st.map tvC).sum = 0 then G rest lc (.inl (if 0 ≤ x then x else 0 - x) :: st) μ ce sl else False
        | _ => False
      | 3 :: _ => match st with
        | .inl y :: .inl x :: st => if (st.map tvC).sum = 0 then G rest lc (.inl (if x < y then y else x) :: st) μ ce sl else False
        | _ => False
      | _ => match lkC ct ix with
        | some ci => calR KT code hn R G Rt ci pc rest lc st μ ce sl
        | none => False
    | .invokespecial ix => match an with
      | 0 :: _ => match st with
        | .inr (.inr _) :: st => if (st.map tvC).sum = 0 then G rest lc st μ ce sl else False
        | _ => False
      | _ :: k1 :: _ => match lkC ct ix with
        | some ci => ctoR R z0 xo G Rt ci k1 pc rest lc st μ ce sl
        | none => False
      | _ => False
    | .ireturn => match st with
      | [.inl x] => if rz then (x = 0 ∨ x = 1) ∧ Rt (.inl (some (.inl x))) μ else Rt (.inl (some (.inl x))) μ
      | _ => False
    | .lreturn => match st with
      | [.inr (.inl x)] => Rt (.inl (some (.inr (.inl x)))) μ
      | _ => False
    | .areturn => match st with
      | [.inr (.inr x)] => Rt (.inl (some (.inr (.inr x)))) μ
      | _ => False
    | .return_ => match st with
      | [] => Rt (.inl none) μ
      | _ => False
    | _ => False
/-- as far as the next cut: there 'K' -/
def vc (cut : List Nat) (K : Nat → LC → List TV → MM → Nat → Nat → Prop) (Rt : OC → MM → Prop) : Nat → GC
  | 0 => fun _ _ _ _ _ _ => False
  | n + 1 => fun es lc st μ ce sl => match es with
    | [] => False
    | e :: rest => if cut.contains e.1 then K e.1 lc st μ ce sl else stp KT ot code ct hn R rz z0 xo (vc cut K Rt n) Rt e rest lc st μ ce sl
end VC
end
section
/-! The kinds of the cells. -/
def kdL : List KD := [
  /- 0 None -/ .inr (0, 0, 0, 0, 0),
  /- 1 ('A', 0, 16) -/ .inr (0, 16, 0, 0, 0),
  /- 2 ('A', 0, 9) -/ .inr (0, 9, 0, 0, 0),
  /- 3 ('A', 0, 192) -/ .inr (0, 192, 0, 0, 0),
  /- 4 ('A', 0, 24) -/ .inr (0, 24, 0, 0, 0),
  /- 5 ('A', 0, 7269) -/ .inr (0, 7269, 0, 0, 0),
  /- 6 ('A', 1, 16) -/ .inr (1, 16, 0, 0, 0),
  /- 7 ('A', 2, 1) -/ .inr (2, 1, 0, 0, 0),
  /- 8 Entities -/ .inl (2, [(4, 1), (4, 2), (4, 3)]),
  /- 9 Records -/ .inl (5, [(4, 1), (6, 2), (6, 3)]),
  /- 10 AckList -/ .inl (0, [(0, 0), (7, 1), (7, 2)]),
  /- 11 Packet -/ .inl (3, [(0, 0), (0, 0), (0, 0), (0, 0), (0, 0), (4, 1), (4, 2), (4, 3), (4, 4), (4, 5)]),
  /- 12 ('Q', 4, 12, 11, 0, 0) -/ .inr (4, 12, 11, 0, 0),
  /- 13 PacketList -/ .inl (4, [(0, 0), (15, 1)]),
  /- 14 Client -/ .inl (1, [(0, 1), (0, 0), (0, 0), (0, 0), (0, 0), (0, 0), (0, 0), (5, 1), (4, 2), (4, 3), (4, 4), (12, 5), (16, 9), (16, 83), (13, 157), (4, 160)]),
  /- 15 ('Q', 3, 3, 14, 1, 161) -/ .inr (3, 3, 14, 1, 161),
  /- 16 World -/ .inl (7, [(0, 0), (0, 0), (0, 0), (11, 1), (18, 5)]),
  /- 17 ('Q', 5, 3, 16, 0, 0) -/ .inr (5, 3, 16, 0, 0),
  /- 18 UndoStack -/ .inl (6, [(0, 0), (20, 1)]),
  /- 19 WorldDeltas -/ .inl (8, [(19, 1), (21, 490)]),
  /- 20 Model -/ .inl (9, [(8, 1), (8, 2), (8, 3), (8, 4), (0, 0), (0, 0), (9, 5), (1, 0)]),
  /- 21 Entities raw0 -/ .inl (2, [(2, 0), (2, 0), (2, 0)]),
  /- 22 Entities raw1 -/ .inl (2, [(4, 1), (2, 0), (2, 0)]),
  /- 23 Entities raw2 -/ .inl (2, [(4, 1), (4, 2), (2, 0)]),
  /- 24 Records raw0 -/ .inl (5, [(2, 0), (2, 0), (2, 0)]),
  /- 25 Records raw1 -/ .inl (5, [(4, 1), (2, 0), (2, 0)]),
  /- 26 Records raw2 -/ .inl (5, [(4, 1), (6, 2), (2, 0)]),
  /- 27 AckList raw0 -/ .inl (0, [(0, 0), (2, 0), (2, 0)]),
  /- 28 AckList raw1 -/ .inl (0, [(0, 0), (7, 1), (2, 0)]),
  /- 29 Packet raw0 -/ .inl (3, [(0, 0), (0, 0), (0, 0), (0, 0), (0, 0), (2, 0), (2, 0), (2, 0), (2, 0), (2, 0)]),
  /- 30 Packet raw1 -/ .inl (3, [(0, 0), (0, 0), (0, 0), (0, 0), (0, 0), (4, 1), (2, 0), (2, 0), (2, 0), (2, 0)]),
  /- 31 Packet raw2 -/ .inl (3, [(0, 0), (0, 0), (0, 0), (0, 0), (0, 0), (4, 1), (4, 2), (2, 0), (2, 0), (2, 0)]),
  /- 32 Packet raw3 -/ .inl (3, [(0, 0), (0, 0), (0, 0), (0, 0), (0, 0), (4, 1), (4, 2), (4, 3), (2, 0), (2, 0)]),
  /- 33 Packet raw4 -/ .inl (3, [(0, 0), (0, 0), (0, 0), (0, 0), (0, 0), (4, 1), (4, 2), (4, 3), (4, 4), (2, 0)]),
  /- 34 PacketList raw0 -/ .inl (4, [(0, 0), (2, 0)]),
  /- 35 Client raw0 -/ .inl (1, [(0, 1), (0, 0), (0, 0), (0, 0), (0, 0), (0, 0), (0, 0), (2, 0), (2, 0), (2, 0), (2, 0), (2, 0), (2, 0), (2, 0), (2, 0), (2, 0)]),
  /- 36 Client raw1 -/ .inl (1, [(0, 1), (0, 0), (0, 0), (0, 0), (0, 0), (0, 0), (0, 0), (5, 1), (2, 0), (2, 0), (2, 0), (2, 0), (2, 0), (2, 0), (2, 0), (2, 0)]),
  /- 37 Client raw2 -/ .inl (1, [(0, 1), (0, 0), (0, 0), (0, 0), (0, 0), (0, 0), (0, 0), (5, 1), (4, 2), (2, 0), (2, 0), (2, 0), (2, 0), (2, 0), (2, 0), (2, 0)]),
  /- 38 Client raw3 -/ .inl (1, [(0, 1), (0, 0), (0, 0), (0, 0), (0, 0), (0, 0), (0, 0), (5, 1), (4, 2), (4, 3), (2, 0), (2, 0), (2, 0), (2, 0), (2, 0), (2, 0)]),
  /- 39 Client raw4 -/ .inl (1, [(0, 1), (0, 0), (0, 0), (0, 0), (0, 0), (0, 0), (0, 0), (5, 1), (4, 2), (4, 3), (4, 4), (2, 0), (2, 0), (2, 0), (2, 0), (2, 0)]),
  /- 40 Client raw5 -/ .inl (1, [(0, 1), (0, 0), (0, 0), (0, 0), (0, 0), (0, 0), (0, 0), (5, 1), (4, 2), (4, 3), (4, 4), (12, 5), (2, 0), (2, 0), (2, 0), (2, 0)]),
  /- 41 Client raw6 -/ .inl (1, [(0, 1), (0, 0), (0, 0), (0, 0), (0, 0), (0, 0), (0, 0), (5, 1), (4, 2), (4, 3), (4, 4), (12, 5), (16, 9), (2, 0), (2, 0), (2, 0)]),
  /- 42 Client raw7 -/ .inl (1, [(0, 1), (0, 0), (0, 0), (0, 0), (0, 0), (0, 0), (0, 0), (5, 1), (4, 2), (4, 3), (4, 4), (12, 5), (16, 9), (16, 83), (2, 0), (2, 0)]),
  /- 43 Client raw8 -/ .inl (1, [(0, 1), (0, 0), (0, 0), (0, 0), (0, 0), (0, 0), (0, 0), (5, 1), (4, 2), (4, 3), (4, 4), (12, 5), (16, 9), (16, 83), (13, 157), (2, 0)]),
  /- 44 World raw0 -/ .inl (7, [(0, 0), (0, 0), (0, 0), (2, 0), (2, 0)]),
  /- 45 World raw1 -/ .inl (7, [(0, 0), (0, 0), (0, 0), (11, 1), (2, 0)]),
  /- 46 UndoStack raw0 -/ .inl (6, [(0, 0), (2, 0)]),
  /- 47 WorldDeltas raw0 -/ .inl (8, [(2, 0), (2, 0)]),
  /- 48 WorldDeltas raw1 -/ .inl (8, [(19, 1), (2, 0)]),
  /- 49 Model raw0 -/ .inl (9, [(2, 0), (2, 0), (2, 0), (2, 0), (0, 0), (0, 0), (2, 0), (1, 0)]),
  /- 50 Model raw1 -/ .inl (9, [(8, 1), (2, 0), (2, 0), (2, 0), (0, 0), (0, 0), (2, 0), (1, 0)]),
  /- 51 Model raw2 -/ .inl (9, [(8, 1), (8, 2), (2, 0), (2, 0), (0, 0), (0, 0), (2, 0), (1, 0)]),
  /- 52 Model raw3 -/ .inl (9, [(8, 1), (8, 2), (8, 3), (2, 0), (0, 0), (0, 0), (2, 0), (1, 0)]),
  /- 53 Model raw4 -/ .inl (9, [(8, 1), (8, 2), (8, 3), (8, 4), (0, 0), (0, 0), (2, 0), (1, 0)])]
def KT (k : Nat) : KD := kdL.getD k (.inr (0, 0, 0, 0, 0))
/-- what each kind of array is -/
def tyA : Nat → FieldType := fun t => match t with
  | 0 => .int
  | 1 => .boolean
  | 2 => .long
  | 3 => .object RX1
  | 4 => .object RX3
  | _ => .object RX8
/-- the object's class of an array's elements, by its place in vwCl -/
def ciA : Nat → Nat := fun t => match t with
  | 3 => 1
  | 4 => 3
  | _ => 7
/-- a field's code beside its type -/
def okF (q : Nat × Nat) (ty : FieldType) : Bool := match q.1, q.2 with
  | 0, 0 => decide (ty = .int)
  | 0, 1 => decide (ty = .boolean)
  | 0, _ => false
  | 1, _ => decide (ty = .long)
  | _, _ => match ty with
    | .object _ => true
    | .array _ => true
    | _ => false
def okFs (T : u_T) : Nat → List (Nat × Nat) → Bool
  | _, [] => true
  | k, q :: r => (match parseFieldDescriptor (T k).2.2.1 with | some ty => okF q ty | none => false) && okFs T (k + 1) r
/-- the kinds are as the classes have them -/
def okK : KD → Bool
  | .inl (ci, fs) => match vwCl[ci]? with
    | some r => decide (fs.length = r.2.2) && okFs r.2.1 0 fs
    | none => false
  | .inr (t, n, ek, _, _) => decide (t < 6) && decide (n < 100000) && (decide (t < 3) || (match kdL[ek]? with | some (.inl (ci, _)) => decide (ci = ciA t) | _ => false))
theorem kd_ok : kdL.all okK = true := by decide +kernel
theorem KT_ok (k : Nat) : okK (KT k) = true := by
  unfold KT
  rw [List.getD_eq_getElem?_getD]
  cases h : kdL[k]? with
  | none => decide +kernel
  | some x => exact List.all_eq_true.mp kd_ok x (List.mem_of_getElem? h)
theorem okFs_at {T : u_T} : ∀ (fs : List (Nat × Nat)) (k0 k : Nat) (q : Nat × Nat), okFs T k0 fs = true → fs[k]? = some q → ∃ ty, parseFieldDescriptor (T (k0 + k)).2.2.1 = some ty ∧ okF q ty = true
  | [], _, _, _, _, h => by simp at h
  | q0 :: r, k0, k, q, h, hq => by
    simp only [okFs, Bool.and_eq_true] at h
    cases k with
    | zero =>
      rw [List.getElem?_cons_zero] at hq
      cases hq
      cases hp : parseFieldDescriptor (T k0).2.2.1 with
      | none => rw [hp] at h; exact absurd h.1 Bool.false_ne_true
      | some ty => rw [hp] at h; exact ⟨ty, rfl, h.1⟩
    | succ k =>
      rw [List.getElem?_cons_succ] at hq
      obtain ⟨ty, h1, h2⟩ := okFs_at r (k0 + 1) k q h.2 hq
      exact ⟨ty, by rw [show k0 + (k + 1) = k0 + 1 + k by omega]; exact h1, h2⟩
/-- the word lists' good words: what every method here may lean on -/
def GW : List Jvm.Cond := lw_tbl.filter goodWord
theorem GW_good : GoodIn GW GW := fun w h => ⟨h, good_of_word (List.mem_filter.mp h).2⟩
/-- a table's word, by its table and place -/
def lwAt (t i : Nat) : Option Jvm.Cond := match t with
  | 0 => (k2_sels lw_privs)[i]?
  | 1 => tables_1_1[i]?
  | 2 => tables_1_2[i]?
  | 3 => tables_1_3[i]?
  | 4 => tables_1_4[i]?
  | _ => tables_1_5[i]?
theorem lwAt_mem {t i : Nat} {w : Jvm.Cond} (h : lwAt t i = some w) : w ∈ lw_tbl := by
  have hm : ∀ {l : List Jvm.Cond} {i : Nat}, l[i]? = some w → w ∈ l := fun h => List.mem_of_getElem? h
  unfold lw_tbl tables_1
  unfold lwAt at h
  split at h
  · exact List.mem_append_left _ (hm h)
  · exact List.mem_append_right _ (List.mem_append_left _ (hm h))
  · exact List.mem_append_right _ (List.mem_append_right _ (List.mem_append_left _ (hm h)))
  · exact List.mem_append_right _ (List.mem_append_right _ (List.mem_append_right _ (List.mem_append_left _ (hm h))))
  · exact List.mem_append_right _ (List.mem_append_right _ (List.mem_append_right _ (List.mem_append_right _ (List.mem_append_left _ (hm h)))))
  · exact List.mem_append_right _ (List.mem_append_right _ (List.mem_append_right _ (List.mem_append_right _ (List.mem_append_right _ (hm h)))))
def isW (t i : Nat) (w : Jvm.Cond) : Bool := decide (lwAt t i = some w) && goodWord w
theorem isW_in {t i : Nat} {w : Jvm.Cond} (h : isW t i w = true) : w ∈ GW := by
  simp only [isW, Bool.and_eq_true, decide_eq_true_eq] at h
  exact List.mem_filter.mpr ⟨lwAt_mem h.1, h.2⟩
set_option maxRecDepth 100000 in
theorem uw_in0 : ∀ r ∈ vwCl, ∀ w ∈ u_ws r.1 r.2.1 r.2.2, (decide (w ∈ tables_1) && goodWord w) = true := by decide +kernel
theorem uw_in {r : vw_C} (hr : r ∈ vwCl) : ∀ w ∈ u_ws r.1 r.2.1 r.2.2, w ∈ GW := fun w hw => by
  have h := uw_in0 r hr w hw
  simp only [Bool.and_eq_true, decide_eq_true_eq] at h
  exact List.mem_filter.mpr ⟨List.mem_append_right _ h.1, h.2⟩
end
section
/-! The heap that a memory tells of, and the machine's rows over it. -/
/-- what is given of a run: where its cells begin, the classes' numbers and slots, the arrays' classes, where the old rows lie -/
abbrev GPT : Type := Nat × va_G × (Nat → ClassId) × (Nat → Nat)
/-- a field's value -/
def fvl (μ : MM) (a k : Nat) (q : Nat × Nat) : Value := match q.1 with
  | 0 => .int (μ.1 a k)
  | 1 => .long (μ.2.2.1 a k)
  | 2 => .null
  | _ + 3 => .ref (a + q.2)
def fvs (μ : MM) (a : Nat) : Nat → List (Nat × Nat) → List Value
  | _, [] => []
  | k, q :: r => fvl μ a k q :: fvs μ a (k + 1) r
/-- an array's references -/
def rfs (μ : MM) (a n o d : Nat) : Nat → Option Nat := fun j => if j < μ.2.1 a n then (if d = 0 then some (μ.2.1 a j) else some (a + o + d * j)) else none
def arv (μ : MM) (a t n o d : Nat) : vp_A := (n, match t with
  | 0 => .inl (μ.1 a)
  | 1 => .inl (μ.1 a)
  | 2 => .inr (.inl (μ.2.2.1 a))
  | _ => .inr (.inr (.inr (.inr (rfs μ a n o d)))))
def FE (g : GPT) (μ : MM) (k a : Nat) : va_E := match KT k with
  | .inl (ci, fs) => .inr (ci, fvs μ a 0 fs)
  | .inr (t, n, _, o, d) => .inl (g.2.2.1 t, arv μ a t n o d)
def HP (g : GPT) (μ : MM) (H : Heap) : Prop := H.size = μ.2.2.2.2 ∧ g.1 ≤ H.size ∧ ∀ a, ¬ μ.2.2.2.1 a = 0 → g.1 ≤ a ∧ va_at g.2.1 vwCl (a, FE g μ (μ.2.2.2.1 a) a) H
/-- the references that the memory holds lead to cells of their kinds -/
def wtK (μ : MM) (a : Nat) (K : KD) : Prop := match K with
  | .inl (_, fs) => ∀ (f j o : Nat), fs[f]? = some (j + 3, o) → μ.2.2.2.1 (a + o) = j ∧ ¬ j = 0
  | .inr (t, n, ek, o, d) => 3 ≤ t → μ.2.1 a n ≤ n ∧ ¬ ek = 0 ∧ ∀ j, j < μ.2.1 a n → μ.2.2.2.1 (if d = 0 then μ.2.1 a j else a + o + d * j) = ek
def WT (μ : MM) : Prop := ∀ a, wtK μ a (KT (μ.2.2.2.1 a))
/-- a value that is what it says -/
def tOK (g : GPT) (μ : MM) : TV → Prop
  | .inr (.inr (k, a)) => (k < 90 → μ.2.2.2.1 a = k ∧ ¬ k = 0) ∧ (90 ≤ k → k < 93 → a = g.2.2.2 k)
  | _ => True
def tOKs (g : GPT) (μ : MM) (st : List TV) : Prop := ∀ v ∈ st, tOK g μ v
def tOKl (g : GPT) (μ : MM) (lc : LC) : Prop := ∀ (i : Nat) (v : TV), lc[i]? = some (some v) → tOK g μ v
theorem tvC_cat (v : TV) : (tvV v).category = tvC v := by
  rcases v with x | x | q <;> rfl
theorem tvC_sum (st : List TV) : ((st.map tvV).map fun v => v.category).sum = (st.map tvC).sum := by
  rw [List.map_map]
  congr 1
  exact List.map_congr_left fun v _ => tvC_cat v
/-! the locals -/
def LH (ls : Array Slot) (nL : Nat) (lc : LC) : Prop := lc.length = nL ∧ ls.size = nL ∧ lv_wf ls ∧ ∀ (i : Nat) (v : TV), lc[i]? = some (some v) → ls[i]? = some (Slot.val (tvV v))
theorem LH.has {ls : Array Slot} {nL : Nat} {lc : LC} (h : LH ls nL lc) (L : List (Nat × TV)) (hL : ∀ q ∈ L, lc[q.1]? = some (some q.2)) : lv_has ls nL (L.map fun q => (q.1, tvV q.2)) := by
  refine ⟨h.2.1, h.2.2.1, fun q hq => ?_⟩
  obtain ⟨r, hr, rfl⟩ := List.mem_map.mp hq
  exact h.2.2.2 _ _ (hL r hr)
theorem getL_at {lc : LC} {i : Nat} {v : TV} (h : getL lc i = some v) : lc[i]? = some (some v) := by
  unfold getL at h
  cases h2 : lc[i]? with
  | none => rw [h2] at h; cases h
  | some o =>
    rw [h2] at h
    cases o with
    | none => cases h
    | some w => cases h; rfl
/-- what stands behind a store -/
theorem setL_at {lc : LC} {i j : Nat} {v w : TV} (h : (setL lc i v)[j]? = some (some w)) : (j = i ∧ w = v) ∨ (¬ j = i ∧ lc[j]? = some (some w) ∧ ¬ (j + 1 = i ∧ tvC w = 2) ∧ (tvC v = 2 → ¬ j = i + 1)) := by
  have s1 : ∀ {l : LC} {a : Nat} {o : Option TV}, (l.set a o)[j]? = some (some w) → (j = a ∧ o = some w) ∨ (¬ j = a ∧ l[j]? = some (some w)) := by
    intro l a o h
    by_cases e : j = a
    · subst e
      rw [List.getElem?_set] at h
      simp only [if_true] at h
      split at h
      · exact Or.inl ⟨rfl, Option.some.inj h⟩
      · cases h
    · rw [List.getElem?_set_ne (Ne.symm e)] at h
      exact Or.inr ⟨e, h⟩
  unfold setL at h
  split at h
  · split at h
    · rename_i hc
      rcases s1 h with ⟨-, e⟩ | ⟨e1, h⟩
      · cases e
      · rcases s1 h with ⟨e, e2⟩ | ⟨e, h⟩
        · exact Or.inl ⟨e, (Option.some.inj e2).symm⟩
        · exact Or.inr ⟨e, h, fun q => by omega, fun _ => e1⟩
    · rename_i hc
      rcases s1 h with ⟨e, e2⟩ | ⟨e, h⟩
      · exact Or.inl ⟨e, (Option.some.inj e2).symm⟩
      · exact Or.inr ⟨e, h, fun q => by omega, fun q => absurd q hc⟩
  · rename_i k
    split at h
    · rename_i x hx
      split at h
      · rename_i hc
        rcases s1 h with ⟨-, e⟩ | ⟨e1, h⟩
        · cases e
        · rcases s1 h with ⟨e, e2⟩ | ⟨e, h⟩
          · exact Or.inl ⟨e, (Option.some.inj e2).symm⟩
          · rcases s1 h with ⟨-, e⟩ | ⟨e3, h⟩
            · cases e
            · exact Or.inr ⟨e, h, fun q => by omega, fun _ => e1⟩
      · rename_i hc
        rcases s1 h with ⟨e, e2⟩ | ⟨e, h⟩
        · exact Or.inl ⟨e, (Option.some.inj e2).symm⟩
        · rcases s1 h with ⟨-, e⟩ | ⟨e3, h⟩
          · cases e
          · exact Or.inr ⟨e, h, fun q => by omega, fun q => absurd q hc⟩
    · rename_i hx
      have key : lc[j]? = some (some w) → ¬ (j + 1 = k + 1 ∧ tvC w = 2) := by
        intro h1 h2
        have e : j = k := by omega
        subst e
        rcases w with x | x | x
        · exact absurd h2.2 (show ¬ (1 : Nat) = 2 by decide)
        · exact hx x (by unfold getL; rw [h1])
        · exact absurd h2.2 (show ¬ (1 : Nat) = 2 by decide)
      split at h
      · rename_i hc
        rcases s1 h with ⟨-, e⟩ | ⟨e1, h⟩
        · cases e
        · rcases s1 h with ⟨e, e2⟩ | ⟨e, h⟩
          · exact Or.inl ⟨e, (Option.some.inj e2).symm⟩
          · exact Or.inr ⟨e, h, key h, fun _ => e1⟩
      · rename_i hc
        rcases s1 h with ⟨e, e2⟩ | ⟨e, h⟩
        · exact Or.inl ⟨e, (Option.some.inj e2).symm⟩
        · exact Or.inr ⟨e, h, key h, fun q => absurd q hc⟩
theorem setL_len (lc : LC) (i : Nat) (v : TV) : (setL lc i v).length = lc.length := by
  unfold setL
  split
  · split <;> simp
  · split
    · split <;> simp
    · split <;> simp
def flL (lc : LC) : List (Nat × TV) := (List.range lc.length).filterMap fun i => (getL lc i).map fun v => (i, v)
theorem flL_mem {lc : LC} {q : Nat × TV} : q ∈ flL lc ↔ lc[q.1]? = some (some q.2) := by
  unfold flL
  rw [List.mem_filterMap]
  constructor
  · rintro ⟨i, -, h⟩
    cases hg : getL lc i with
    | none => rw [hg] at h; cases h
    | some v => rw [hg] at h; cases h; exact getL_at hg
  · intro h
    refine ⟨q.1, List.mem_range.mpr (List.getElem?_eq_some_iff.mp h).1, ?_⟩
    unfold getL
    rw [h]
    rfl
theorem LH.flat {ls : Array Slot} {nL : Nat} {lc : LC} (h : LH ls nL lc) : lv_has ls nL ((flL lc).map fun q => (q.1, tvV q.2)) := h.has _ fun _ hq => flL_mem.mp hq
theorem LH.st1 {ls ls' : Array Slot} {nL : Nat} {lc : LC} {i : Nat} {v : TV} (h : LH ls nL lc) (hc : tvC v = 1) (h' : lv_has ls' nL ((i, tvV v) :: ((flL lc).map fun q => (q.1, tvV q.2)).filter (fun q => !(q.1 == i) && !(q.1 + 1 == i && q.2.category == 2)))) : LH ls' nL (setL lc i v) := by
  refine ⟨(setL_len _ _ _).trans h.1, h'.1, h'.2.1, fun j w hj => ?_⟩
  rcases setL_at hj with ⟨rfl, rfl⟩ | ⟨h1, h2, h3, -⟩
  · exact h'.2.2 _ List.mem_cons_self
  · refine h'.2.2 (j, tvV w) (List.mem_cons_of_mem _ (List.mem_filter.mpr ⟨List.mem_map.mpr ⟨(j, w), flL_mem.mpr h2, rfl⟩, ?_⟩))
    have e1 : (j == i) = false := by simpa using h1
    have e2 : ((tvV w).category == 2) = true → ¬ j + 1 = i := fun q z => h3 ⟨z, by rw [← tvC_cat]; simpa using q⟩
    show (!(j == i) && !(j + 1 == i && (tvV w).category == 2)) = true
    rw [e1]
    cases e3 : (tvV w).category == 2 with
    | false => simp
    | true => simpa using e2 e3
theorem LH.st2 {ls ls' : Array Slot} {nL : Nat} {lc : LC} {i : Nat} {v : TV} (h : LH ls nL lc) (hc : tvC v = 2) (h' : lv_has ls' nL ((i, tvV v) :: ((flL lc).map fun q => (q.1, tvV q.2)).filter (fun q => !(q.1 == i) && (!(q.1 == i + 1) && !(q.1 + 1 == i && q.2.category == 2))))) : LH ls' nL (setL lc i v) := by
  refine ⟨(setL_len _ _ _).trans h.1, h'.1, h'.2.1, fun j w hj => ?_⟩
  rcases setL_at hj with ⟨rfl, rfl⟩ | ⟨h1, h2, h3, h4⟩
  · exact h'.2.2 _ List.mem_cons_self
  · refine h'.2.2 (j, tvV w) (List.mem_cons_of_mem _ (List.mem_filter.mpr ⟨List.mem_map.mpr ⟨(j, w), flL_mem.mpr h2, rfl⟩, ?_⟩))
    have e1 : (j == i) = false := by simpa using h1
    have e4 : (j == i + 1) = false := by simpa using h4 hc
    have e2 : ((tvV w).category == 2) = true → ¬ j + 1 = i := fun q z => h3 ⟨z, by rw [← tvC_cat]; simpa using q⟩
    show (!(j == i) && (!(j == i + 1) && !(j + 1 == i && (tvV w).category == 2))) = true
    rw [e1, e4]
    cases e3 : (tvV w).category == 2 with
    | false => simp
    | true => simpa using e2 e3
theorem tOKl.set {g : GPT} {μ : MM} {lc : LC} {i : Nat} {v : TV} (h : tOKl g μ lc) (hv : tOK g μ v) : tOKl g μ (setL lc i v) := fun j w hj => by
  rcases setL_at hj with ⟨-, rfl⟩ | ⟨-, h2, -⟩
  · exact hv
  · exact h j w h2
end
section
/-! One cell of the heap changes: what the memory tells of the others stays. -/
def Ag (g : GPT) : Nat → Prop := fun q => g.1 ≤ q
def tysG (g : GPT) : List (ClassId × FieldType) := [(g.2.2.1 0, .int), (g.2.2.1 1, .boolean), (g.2.2.1 2, .long), (g.2.2.1 3, .object RX1), (g.2.2.1 4, .object RX3), (g.2.2.1 5, .object RX8)]
theorem vpf (μ : MM) (a : Nat) : ∀ (fs : List (Nat × Nat)) (k0 k : Nat), vp_V (fvs μ a k0 fs) k = match fs[k]? with
    | some q => fvl μ a (k0 + k) q
    | none => .null
  | [], _, k => by simp [vp_V, fvs]
  | q :: r, k0, 0 => by simp [vp_V, fvs]
  | q :: r, k0, k + 1 => by
    have h := vpf μ a r (k0 + 1) k
    rw [List.getElem?_cons_succ, show k0 + (k + 1) = k0 + 1 + k by omega, ← h]
    simp [vp_V, fvs]
theorem fvs_at {μ : MM} {a : Nat} : ∀ {fs : List (Nat × Nat)} {k0 k : Nat} {q : Nat × Nat}, fs[k]? = some q → (fvs μ a k0 fs)[k]? = some (fvl μ a (k0 + k) q)
  | [], _, _, _, h => by simp at h
  | q0 :: r, k0, 0, q, h => by
    rw [List.getElem?_cons_zero] at h
    cases h
    simp [fvs]
  | q0 :: r, k0, k + 1, q, h => by
    rw [List.getElem?_cons_succ] at h
    have := fvs_at (μ := μ) (a := a) (k0 := k0 + 1) h
    simp only [fvs, List.getElem?_cons_succ]
    rw [this, show k0 + 1 + k = k0 + (k + 1) by omega]
/-- two memories that agree at an address -/
def agA (μ μ' : MM) (b : Nat) : Prop := μ'.1 b = μ.1 b ∧ μ'.2.1 b = μ.2.1 b ∧ μ'.2.2.1 b = μ.2.2.1 b
theorem fvs_ag {μ μ' : MM} {b : Nat} (h : agA μ μ' b) : ∀ (fs : List (Nat × Nat)) (k : Nat), fvs μ' b k fs = fvs μ b k fs
  | [], _ => rfl
  | q :: r, k => by
    simp only [fvs]
    rw [fvs_ag h r (k + 1)]
    congr 1
    unfold fvl
    rw [h.1, h.2.2]
theorem FE_ag {g : GPT} {μ μ' : MM} {b k : Nat} (h : agA μ μ' b) : FE g μ' k b = FE g μ k b := by
  unfold FE
  split
  · rw [fvs_ag h]
  · unfold arv rfs
    rw [h.1, h.2.1, h.2.2]
theorem HP.upd {g : GPT} {μ μ' : MM} {H H1 : Heap} {a : Nat} (h : HP g μ H) (hsz : μ'.2.2.2.2 = μ.2.2.2.2) (z : H1.size = H.size) (oq : ∀ q : Nat, q ≠ a → H1[q]? = H[q]?) (hka : ¬ μ.2.2.2.1 a = 0)
    (ha : va_at g.2.1 vwCl (a, FE g μ' (μ'.2.2.2.1 a) a) H1) (hk : ∀ b, b ≠ a → μ'.2.2.2.1 b = μ.2.2.2.1 b ∧ agA μ μ' b) : HP g μ' H1 := by
  refine ⟨by rw [z, hsz]; exact h.1, by rw [z]; exact h.2.1, fun b hb => ?_⟩
  by_cases e : b = a
  · subst e
    exact ⟨(h.2.2 b hka).1, ha⟩
  · obtain ⟨h1, h2⟩ := hk b e
    rw [h1] at hb ⊢
    obtain ⟨h3, h4⟩ := h.2.2 b hb
    refine ⟨h3, ?_⟩
    rw [FE_ag h2]
    exact h4.kept (oq b e)
theorem up2_ne {α : Type} {f : Nat → Nat → α} {a j : Nat} {v : α} {b : Nat} (h : b ≠ a) : up2 f a j v b = f b := by
  funext k
  simp [up2, h]
theorem up2_eq {α : Type} {f : Nat → Nat → α} {a j : Nat} {v : α} : up2 f a j v a j = v := by simp [up2]
theorem up2_nj {α : Type} {f : Nat → Nat → α} {a j : Nat} {v : α} {b k : Nat} (h : k ≠ j) : up2 f a j v b k = f b k := by simp [up2, h]
theorem clr_ne {α : Type} {f : Nat → Nat → α} {a : Nat} {v : α} {b : Nat} (h : b ≠ a) : clr f a v b = f b := by
  funext k
  simp [clr, h]
theorem cpR_ne {f : Nat → Nat → Int32} {a0 sp a dp n b : Nat} (h : b ≠ a) : cpR f a0 sp a dp n b = f b := by
  funext k
  simp [cpR, h]
theorem up1_ne {α : Type} {f : Nat → α} {a : Nat} {v : α} {b : Nat} (h : b ≠ a) : up1 f a v b = f b := by simp [up1, h]
theorem up1_eq {α : Type} {f : Nat → α} {a : Nat} {v : α} : up1 f a v a = v := by simp [up1]
theorem fldK_spec {k ci f : Nat} {q : Nat × Nat} (h : fldK KT k ci f = some q) : ∃ fs, KT k = .inl (ci, fs) ∧ fs[f]? = some q := by
  unfold fldK at h
  split at h
  · rename_i c fs e
    split at h
    · rename_i hc
      subst hc
      exact ⟨fs, e, h⟩
    · cases h
  · cases h
theorem arrK_spec {k : Nat} {q : Nat × Nat × Nat × Nat × Nat} (h : arrK KT k = some q) : KT k = .inr q := by
  unfold arrK at h
  split at h
  · cases h
  · rename_i e
    cases h
    exact e
theorem KT_inl {k ci : Nat} {fs : List (Nat × Nat)} (h : KT k = .inl (ci, fs)) : ∃ r : vw_C, vwCl[ci]? = some r ∧ fs.length = r.2.2 ∧ ∀ (f : Nat) (q : Nat × Nat), fs[f]? = some q → ∃ ty, parseFieldDescriptor (r.2.1 f).2.2.1 = some ty ∧ okF q ty = true := by
  have h0 := KT_ok k
  rw [h] at h0
  simp only [okK] at h0
  cases hr : vwCl[ci]? with
  | none => rw [hr] at h0; exact absurd h0 Bool.false_ne_true
  | some r =>
    rw [hr] at h0
    simp only [Bool.and_eq_true, decide_eq_true_eq] at h0
    refine ⟨r, rfl, h0.1, fun f q hf => ?_⟩
    obtain ⟨ty, h1, h2⟩ := okFs_at fs 0 f q h0.2 hf
    rw [Nat.zero_add] at h1
    exact ⟨ty, h1, h2⟩
theorem KT_inr {k t n ek o d : Nat} (h : KT k = .inr (t, n, ek, o, d)) : t < 6 ∧ n < 100000 := by
  have h0 := KT_ok k
  rw [h] at h0
  simp only [okK, Bool.and_eq_true, decide_eq_true_eq] at h0
  exact ⟨h0.1.1, h0.1.2⟩
theorem KT_ek {k t n ek o d : Nat} (h : KT k = .inr (t, n, ek, o, d)) (h3 : 3 ≤ t) : ∃ fs, KT ek = .inl (ciA t, fs) := by
  have h0 := KT_ok k
  rw [h] at h0
  simp only [okK, Bool.and_eq_true, Bool.or_eq_true, decide_eq_true_eq] at h0
  rcases h0.2 with h1 | h1
  · omega
  · split at h1
    · rename_i ci fs e
      simp only [decide_eq_true_eq] at h1
      subst h1
      refine ⟨fs, ?_⟩
      unfold KT
      rw [List.getD_eq_getElem?_getD, e]
      rfl
    · cases h1
theorem nm_all : ∀ r ∈ vwCl, ∀ a, a < r.2.2 → ∀ b, b < r.2.2 → a ≠ b → (r.2.1 a).2.1 ≠ (r.2.1 b).2.1 := by
  intro r hr
  simp only [vwCl, List.mem_cons, List.not_mem_nil, or_false] at hr
  rcases hr with rfl | rfl | rfl | rfl | rfl | rfl | rfl | rfl | rfl | rfl
  · exact nmX0
  · exact nmX1
  · exact nmX2
  · exact nmX3
  · exact nmX4
  · exact nmX5
  · exact nmX7
  · exact nmX8
  · exact nmX9
  · exact nmX10
theorem ty_all : ∀ r ∈ vwCl, ∃ ty : Nat → FieldType, ∀ k, k < r.2.2 → parseFieldDescriptor (r.2.1 k).2.2.1 = some (ty k) := by
  intro r hr
  simp only [vwCl, List.mem_cons, List.not_mem_nil, or_false] at hr
  rcases hr with rfl | rfl | rfl | rfl | rfl | rfl | rfl | rfl | rfl | rfl
  · exact ⟨_, tyX0_ok⟩
  · exact ⟨_, tyX1_ok⟩
  · exact ⟨_, tyX2_ok⟩
  · exact ⟨_, tyX3_ok⟩
  · exact ⟨_, tyX4_ok⟩
  · exact ⟨_, tyX5_ok⟩
  · exact ⟨_, tyX7_ok⟩
  · exact ⟨_, tyX8_ok⟩
  · exact ⟨_, tyX9_ok⟩
  · exact ⟨_, tyX10_ok⟩
theorem decl_all : ∀ r ∈ vwCl, ∀ a, a < r.2.2 → (r.2.1 a).1 = r.1 := by
  have h : ∀ r ∈ vwCl, ∀ a, a < r.2.2 → decide ((r.2.1 a).1 = r.1) = true := by decide +kernel
  exact fun r hr a ha => of_decide_eq_true (h r hr a ha)
end
section
/-! The machine's rows over a memory: reads and writes of fields and arrays. -/
/-- the exceptions' classes, by what vc calls them -/
def exN : Nat → String
  | 1 => "java/lang/IndexOutOfBoundsException"
  | 2 => "java/lang/IllegalArgumentException"
  | _ => "java/lang/IllegalStateException"
/-- the texts of the class's throws -/
def SLs : List (String × Nat × String) := [(RX9, 208, "no such number of an entity"), (RX9, 213, "an argument is out of range"), (RX9, 220, "the entity does not exist"), (RX9, 222, "no such client"), (RX9, 224, "the client is not connected"), (RX9, 226, "no such packet"), (RX9, 158, "the undo stack is empty")]
/-- the constructors that an exception's constructor calls -/
def DCs : List String := ["java/lang/RuntimeException", "java/lang/Exception", Bundle.tN]
def NMs : List (String × Nat × MethodName × String) := [(RX1, 26, yX5_init, RX9), (RX4, 17, yX3_init, RX9), (RX1, 43, yX0_init, RX9)]
/-- what a method's start gives beside its cells: the classes, the old rows, what a throw reads -/
def KU (g : GPT) (ot : OT) (U : State) : Prop := va_K g.2.1 vwCl (tysG g) U ∧ (∀ k : Nat, 90 ≤ k → k < 93 → ot.1 k < 2 ^ 31 ∧ va_T .int (g.2.2.2 k) (ot.1 k) (fun j => .int (ot.2 k j)) (Ag g) U U.heap) ∧
  (∀ C ∈ [RX1, RX3, RX8], va_AO C U) ∧ (∀ q ∈ NMs, va_Nw (.methodLinkNest q.1 q.2.1 q.2.2.1 q.2.2.2) U) ∧ (∀ i ∈ [1, 2, 3], va_Nw (.castable (exN i) (exN i)) U) ∧ (∀ C ∈ DCs, va_Nw (.declares (Bundle.initS C)) U) ∧ (∀ i ∈ [1, 2, 3], ∀ j ∈ [1, 2, 3], i ≠ j → va_Nc (exN i) (exN j) U) ∧
  va_Z RX6 "SHIFTS" "[I" (.ref (g.2.2.2 91)) (Ag g) U U.heap ∧ va_Z RX6 "MASKS" "[I" (.ref (g.2.2.2 92)) (Ag g) U U.heap ∧
  vx_Zq Bundle.tN "UNASSIGNED_STACK" Bundle.steD (Ag g) U U.heap ∧ vx_Zq Bundle.tN "SUPPRESSED_SENTINEL" Bundle.listD (Ag g) U U.heap ∧ (∀ q ∈ SLs, ∃ a, vk_R q.1 q.2.1 q.2.2 a U)
theorem KU.moved {g : GPT} {ot : OT} {s U : State} (h : KU g ot s) (hW : s.WarmedH U.vm) (hq : ∀ q : Nat, q < s.heap.size → ¬ Ag g q → U.heap[q]? = s.heap[q]?) : KU g ot U := by
  obtain ⟨h1, h2, h3, h4, h5, h5d, h6, h7, h8, h9, h10, h11⟩ := h
  have ha := hW.alike
  refine ⟨h1.moved ha, fun k a b => ⟨(h2 k a b).1, ((h2 k a b).2.moved ha).kept hq⟩, fun C hC => (h3 C hC).moved ha, fun q hq => (h4 q hq).warmM hW, fun i hi => ?_, fun C hC => (h5d C hC).warmD hW, fun i hi j hj ne => (h6 i hi j hj ne).moved ha, (h7.moved ha).kept hq, (h8.moved ha).kept hq, (h9.moved ha).kept hq, (h10.moved ha).kept hq, fun q hq => ?_⟩
  · have e := Cond.castable_setVm (args := #[]) ha (exN i) (exN i)
    exact va_tabs rfl (rfl : (s.setVm U.vm).vm = U.vm) (e.trans (h5 i hi))
  · obtain ⟨a, q1⟩ := h11 q hq
    exact ⟨a, q1.warm hW⟩
theorem va_in_of' {i : Int32} {j n : Nat} (h : i = nI j) (hj : j < n) (hn : n < 2 ^ 31) : vp_in i n ∧ i.toNatClampNeg = j := by
  subst h
  have h1 := nI_clamp (n := j) (by omega)
  refine ⟨?_, h1⟩
  unfold vp_in
  rw [h1]
  intro q
  rcases q with q | q
  · exact nI_pos (by omega) q
  · omega
theorem ob_all {t : Nat} {r : vw_C} (h : t + 3 < 6) (hr : vwCl[ciA (t + 3)]? = some r) : tyA (t + 3) = .object r.1 := by
  match t, h with
  | 0, _ =>
    have h1 : (vwCl[ciA (0 + 3)]?).map (fun q => q.1) = some RX1 := rfl
    rw [hr] at h1
    exact congrArg FieldType.object (Option.some.inj h1).symm
  | 1, _ =>
    have h1 : (vwCl[ciA (1 + 3)]?).map (fun q => q.1) = some RX3 := rfl
    rw [hr] at h1
    exact congrArg FieldType.object (Option.some.inj h1).symm
  | 2, _ =>
    have h1 : (vwCl[ciA (2 + 3)]?).map (fun q => q.1) = some RX8 := rfl
    rw [hr] at h1
    exact congrArg FieldType.object (Option.some.inj h1).symm
section RW
variable {p : Program} {l : Launch} {e : Env} {R : Room} {s : State} {m : MethodId} {args : Array Value} {below : List Frame} {meth : Method} {c : Code} {H : Heap} {locs : List Loc} {cells slots : Nat} {Q : State → Prop}
variable {cc : ByteArray} {pc : Nat} {ls : Array Slot} {rest : List Value} {g : GPT} {ot : OT} {μ : MM} {own : String}
theorem HP.sing {a k : Nat} (h : HP g μ H) (hk : μ.2.2.2.1 a = k) (h0 : ¬ k = 0) : va_P g.2.1 vwCl [(a, FE g μ k a)] H ∧ Ag g a := by
  subst hk
  obtain ⟨h1, h2⟩ := h.2.2 a h0
  refine ⟨fun i q hq => ?_, h1⟩
  have hi : i < 1 := (List.getElem?_eq_some_iff.mp hq).1
  have : i = 0 := by omega
  subst this
  rw [List.getElem?_cons_zero] at hq
  cases hq
  exact h2
theorem r_get (hx : p.tables.exec = Jvm.exec) (hb : c.code = cc) (hown : s.vm.findClass own = some m.cls) (hts : ∀ w ∈ GW, w.before args s = true) (hK : KU g ot s) (hP : HP g μ H)
    {a k ci f ix : Nat} {q : Nat × Nat} {r : vw_C} (hk : μ.2.2.2.1 a = k) (h0 : ¬ k = 0) (hf : fldK KT k ci f = some q) (hr : vwCl[ci]? = some r) (hn : f < r.2.2) (hw : (Jvm.Cond.fieldLink own ix (r.2.1 f).1 (r.2.1 f).2.1 (r.2.1 f).2.2.1) ∈ GW) (hdg : decode cc pc = .ok (.getfield ix, 3))
    (kk : W p l e R s m args below meth c H locs cells slots Q (F0 m (pc + 3) ls (fvl μ a f q :: rest))) : W p l e R s m args below meth c H locs cells slots Q (F0 m pc ls (.ref a :: rest)) := by
  obtain ⟨fs, e1, e2⟩ := fldK_spec hf
  have hP1 := (hP.sing hk h0).1
  have e3 : FE g μ k a = .inr (ci, fvs μ a 0 fs) := by unfold FE; rw [e1]
  rw [e3] at hP1
  have e4 := fvs_at (μ := μ) (a := a) (k0 := 0) e2
  rw [Nat.zero_add] at e4
  exact va_get hx hb hts (uw_in (List.mem_of_getElem? hr)) hown hK.1 hP1 0 (fs := fvs μ a 0 fs) rfl hr f hn (hts _ hw) (fun x h => h) e4 hdg kk
/-- the parts that va_put rests on, told with what stays -/
theorem r_putV (hx : p.tables.exec = Jvm.exec) (hb : c.code = cc) (hown : s.vm.findClass own = some m.cls) (hts : ∀ w ∈ GW, w.before args s = true) (hK : KU g ot s) (hP : HP g μ H) (hS0 : va_S (Ag g) s.heap H locs)
    {a k ci f ix : Nat} {q : Nat × Nat} {r : vw_C} (hk : μ.2.2.2.1 a = k) (h0 : ¬ k = 0) (hf : fldK KT k ci f = some q) (hr : vwCl[ci]? = some r) (hn : f < r.2.2) (hw : (Jvm.Cond.fieldLink own ix (r.2.1 f).1 (r.2.1 f).2.1 (r.2.1 f).2.2.1) ∈ GW)
    (hfin : (r.2.1 f).2.2.2 = false ∨ ((r.2.1 f).2.2.2 = true ∧ meth.name = "<init>" ∧ r.1 = own)) {ty : FieldType} {v : Value} (hd : parseFieldDescriptor (r.2.1 f).2.2.1 = some ty) (hv : narrow ty v = v) (hfit : fits ty v = true) (hdg : decode cc pc = .ok (.putfield ix, 3))
    {μ' : MM} {k1 : Nat} {fs1 : List (Nat × Nat)} (h1 : μ'.2.2.2.1 a = k1) (e1' : KT k1 = .inl (ci, fs1)) (hsz : μ'.2.2.2.2 = μ.2.2.2.2) (hag : ∀ b, b ≠ a → μ'.2.2.2.1 b = μ.2.2.2.1 b ∧ agA μ μ' b)
    (hV : ∀ fs, KT k = .inl (ci, fs) → ∀ j, j < r.2.2 → updV (vp_V (fvs μ a 0 fs)) f v j = vp_V (fvs μ' a 0 fs1) j)
    (kk : ∀ (H1 : Heap) (locs1 : List Loc), HP g μ' H1 → va_S (Ag g) s.heap H1 locs1 → W p l e R s m args below meth c H1 locs1 cells slots Q (F0 m (pc + 3) ls rest)) : W p l e R s m args below meth c H locs cells slots Q (F0 m pc ls (v :: .ref a :: rest)) := by
  obtain ⟨fs, e1, e2⟩ := fldK_spec hf
  have hrm := List.mem_of_getElem? hr
  obtain ⟨hP1, hA⟩ := hP.sing hk h0
  have e3 : FE g μ k a = .inr (ci, fvs μ a 0 fs) := by unfold FE; rw [e1]
  rw [e3] at hP1
  obtain ⟨ty0, hty⟩ := ty_all r hrm
  have hin := uw_in hrm
  have hap := va_apart (own := own) hts hin ty0 hty (nm_all r hrm) hK.1 hr
  obtain ⟨r', g1, cell, q1, q2, q3, q4⟩ := hP1 0 _ rfl
  have hr' : r' = r := Option.some.inj (g1.symm.trans hr)
  subst hr'
  obtain ⟨hS, hfc, kC, hkC, hkind⟩ := hK.1.1 ci _ hr
  obtain ⟨cf, kf, fi, fd, hi, hsl⟩ := hS f hn
  have hlay := hts _ (hin _ (u_in_lay hn))
  have hst := (u_facts hfc hkC (u_lays hts hin hn) hi).1
  have fin : ∀ H' : Heap, H'[a]? = some (cell.setSlot (g.2.1.2 ci f) v) → H'.size = H.size → (∀ q : Nat, q ≠ a → H'[q]? = H[q]?) → W p l e R s m args below meth c H' (locs ++ [⟨a, g.2.1.2 ci f⟩]) cells slots Q (F0 m (pc + 3) ls rest) := by
    intro H' x1 x2 x3
    refine kk H' _ (hP.upd hsz x2 x3 (by rw [hk]; exact h0) ?_ hag) (hS0.put x2 x3 hA)
    rw [h1]
    have e5 : FE g μ' k1 a = .inr (ci, fvs μ' a 0 fs1) := by unfold FE; rw [e1']
    rw [e5]
    exact ⟨r', hr, t_OB.to (V := updV (vp_V (fvs μ a 0 fs)) f v) ⟨_, x1, q2, q3, t_set q4 hap hn v⟩ (hV fs e1)⟩
  rcases hfin with hfin | ⟨hfin, hin2, hdecl⟩
  · unfold u_lay at hlay
    rw [if_neg (by rw [hfin]; decide)] at hlay
    have h6 := u_store hfc hkC hkind hlay hi hd hv hfit
    refine W.putK hx hb (f := fd) ⟨hown, hts _ hw, ⟨_, _, _, hi⟩, hst⟩ (by rw [q2]; exact h6) q1 q3 (by rw [hsl]; exact k2_hasslot (q4 f hn)) rfl rfl hdg fun H' x1 x2 x3 => ?_
    rw [hsl] at x1 ⊢
    exact fin H' x1 x2 x3
  · unfold u_lay at hlay
    rw [if_pos hfin] at hlay
    have hcf : m.cls = cf := by
      obtain ⟨_, _, c', _, _, _, -, -, hf', -, -, -, hown2, -⟩ := Cond.laysFinal_spec hlay
      have z1 : c' = cf := by have := hi.symm.trans hf'; simp at this; exact this.1.symm
      rw [decl_all r' hrm f hn, hdecl] at hown2
      rw [← z1]; exact Option.some.inj (hown.symm.trans hown2)
    have h6 := u_fits hfc hkC hkind (Or.inr hlay) hi hd hv hfit
    refine W.putFinK hx hb hown (hts _ hw) hi hst hcf hin2 (by rw [q2]; exact h6) q1 q3 (by rw [hsl]; exact k2_hasslot (q4 f hn)) rfl rfl hdg fun H' x1 x2 x3 => ?_
    rw [hsl] at x1 ⊢
    exact fin H' x1 x2 x3
theorem FE_arr {k a t n ek o d : Nat} (h : KT k = .inr (t, n, ek, o, d)) : FE g μ k a = .inl (g.2.2.1 t, arv μ a t n o d) := by unfold FE; rw [h]
theorem tysG_at {t : Nat} (h : t < 6) : (tysG g)[t]? = some (g.2.2.1 t, tyA t) := by
  match t, h with
  | 0, _ => rfl
  | 1, _ => rfl
  | 2, _ => rfl
  | 3, _ => rfl
  | 4, _ => rfl
  | 5, _ => rfl
theorem r_iald (hx : p.tables.exec = Jvm.exec) (hb : c.code = cc) (hK : KU g ot s) (hP : HP g μ H) {a k n j : Nat} {q : Nat × Nat × Nat} {i : Int32} (hk : μ.2.2.2.1 a = k) (h0 : ¬ k = 0) (hf : arrK KT k = some (0, n, q)) (hi : i = nI j) (hj : j < n) (hdg : decode cc pc = .ok (.iaload, 1))
    (kk : W p l e R s m args below meth c H locs cells slots Q (F0 m (pc + 1) ls (.int (μ.1 a j) :: rest))) : W p l e R s m args below meth c H locs cells slots Q (F0 m pc ls (.int i :: .ref a :: rest)) := by
  obtain ⟨ek, o, d⟩ := q
  have e1 := arrK_spec hf
  have hP1 := (hP.sing hk h0).1
  rw [FE_arr e1] at hP1
  obtain ⟨i1, i2⟩ := va_in_of' hi hj (by have := (KT_inr e1).2; omega)
  refine va_iald hx hb hK.1 hP1 0 0 (n := n) (f := μ.1 a) rfl rfl i1 hdg ?_
  rw [i2]
  exact kk
theorem r_zald (hx : p.tables.exec = Jvm.exec) (hb : c.code = cc) (hK : KU g ot s) (hP : HP g μ H) {a k n j : Nat} {q : Nat × Nat × Nat} {i : Int32} (hk : μ.2.2.2.1 a = k) (h0 : ¬ k = 0) (hf : arrK KT k = some (1, n, q)) (hi : i = nI j) (hj : j < n) (hdg : decode cc pc = .ok (.baload, 1))
    (kk : W p l e R s m args below meth c H locs cells slots Q (F0 m (pc + 1) ls (.int (μ.1 a j) :: rest))) : W p l e R s m args below meth c H locs cells slots Q (F0 m pc ls (.int i :: .ref a :: rest)) := by
  obtain ⟨ek, o, d⟩ := q
  have e1 := arrK_spec hf
  have hP1 := (hP.sing hk h0).1
  rw [FE_arr e1] at hP1
  obtain ⟨i1, i2⟩ := va_in_of' hi hj (by have := (KT_inr e1).2; omega)
  refine va_zald hx hb hK.1 hP1 0 1 (n := n) (f := μ.1 a) rfl rfl i1 hdg ?_
  rw [i2]
  exact kk
theorem r_lald (hx : p.tables.exec = Jvm.exec) (hb : c.code = cc) (hK : KU g ot s) (hP : HP g μ H) {a k n j : Nat} {q : Nat × Nat × Nat} {i : Int32} (hk : μ.2.2.2.1 a = k) (h0 : ¬ k = 0) (hf : arrK KT k = some (2, n, q)) (hi : i = nI j) (hj : j < n) (hdg : decode cc pc = .ok (.laload, 1))
    (kk : W p l e R s m args below meth c H locs cells slots Q (F0 m (pc + 1) ls (.long (μ.2.2.1 a j) :: rest))) : W p l e R s m args below meth c H locs cells slots Q (F0 m pc ls (.int i :: .ref a :: rest)) := by
  obtain ⟨ek, o, d⟩ := q
  have e1 := arrK_spec hf
  have hP1 := (hP.sing hk h0).1
  rw [FE_arr e1] at hP1
  obtain ⟨i1, i2⟩ := va_in_of' hi hj (by have := (KT_inr e1).2; omega)
  refine va_lald hx hb hK.1 hP1 0 2 (n := n) (f := μ.2.2.1 a) rfl rfl i1 hdg ?_
  rw [i2]
  exact kk
theorem r_aald (hx : p.tables.exec = Jvm.exec) (hb : c.code = cc) (hK : KU g ot s) (hP : HP g μ H) {a k n j t ek o d : Nat} {i : Int32} (hk : μ.2.2.2.1 a = k) (h0 : ¬ k = 0) (hf : arrK KT k = some (t + 3, n, ek, o, d)) (hi : i = nI j) (hj : j < n) (hfl : j < μ.2.1 a n) (hdg : decode cc pc = .ok (.aaload, 1))
    (kk : W p l e R s m args below meth c H locs cells slots Q (F0 m (pc + 1) ls (.ref (if d = 0 then μ.2.1 a j else a + o + d * j) :: rest))) : W p l e R s m args below meth c H locs cells slots Q (F0 m pc ls (.int i :: .ref a :: rest)) := by
  have e1 := arrK_spec hf
  have hP1 := (hP.sing hk h0).1
  rw [FE_arr e1] at hP1
  obtain ⟨ht, hn⟩ := KT_inr e1
  obtain ⟨i1, i2⟩ := va_in_of' hi hj (by omega)
  have hty := tysG_at (g := g) ht
  have hob : ∃ C, tyA (t + 3) = .object C := by
    match t, ht with
    | 0, _ => exact ⟨_, rfl⟩
    | 1, _ => exact ⟨_, rfl⟩
    | 2, _ => exact ⟨_, rfl⟩
  obtain ⟨C, hC⟩ := hob
  rw [hC] at hty
  refine va_aldq hx hb hK.1 hP1 0 (t + 3) (n := n) (f := rfs μ a n o d) rfl hty i1 hdg ?_
  rw [i2]
  have : va_rf (rfs μ a n o d j) = .ref (if d = 0 then μ.2.1 a j else a + o + d * j) := by
    unfold rfs
    rw [if_pos hfl]
    split <;> rfl
  rw [this]
  exact kk
/-- an array's cell, written -/
theorem r_arrSet (hP : HP g μ H) (hS : va_S (Ag g) s.heap H locs) {a k t n ek o d j : Nat} (hk : μ.2.2.2.1 a = k) (h0 : ¬ k = 0) (e1 : KT k = .inr (t, n, ek, o, d)) {μ' : MM} (hkk : μ'.2.2.2 = μ.2.2.2) (hag : ∀ b, b ≠ a → agA μ μ' b) {H1 : Heap} (z : H1.size = H.size) (oq : ∀ q : Nat, q ≠ a → H1[q]? = H[q]?)
    (hc : H1[a]? = some (vp_cell (g.2.2.1 t) (arv μ' a t n o d))) : HP g μ' H1 ∧ va_S (Ag g) s.heap H1 (locs ++ [⟨a, j⟩]) := by
  refine ⟨hP.upd (by rw [hkk]) z oq (by rw [hk]; exact h0) ?_ (fun b hb => ⟨by rw [hkk], hag b hb⟩), hS.put z oq (hP.sing hk h0).2⟩
  rw [hkk, hk, FE_arr e1]
  exact hc
theorem upd_up2 {f : Nat → Nat → Int32} {a j : Nat} {x : Int32} : upd (f a) j x = up2 f a j x a := by
  funext q
  simp [upd, up2]
theorem r_iast (hx : p.tables.exec = Jvm.exec) (hb : c.code = cc) (hK : KU g ot s) (hP : HP g μ H) (hS : va_S (Ag g) s.heap H locs) {a k n j : Nat} {q : Nat × Nat × Nat} {i x : Int32} (hk : μ.2.2.2.1 a = k) (h0 : ¬ k = 0) (hf : arrK KT k = some (0, n, q)) (hi : i = nI j) (hj : j < n) (hdg : decode cc pc = .ok (.iastore, 1))
    (kk : ∀ (H1 : Heap) (locs1 : List Loc), HP g (up2 μ.1 a j x, μ.2) H1 → va_S (Ag g) s.heap H1 locs1 → W p l e R s m args below meth c H1 locs1 cells slots Q (F0 m (pc + 1) ls rest)) : W p l e R s m args below meth c H locs cells slots Q (F0 m pc ls (.int x :: .int i :: .ref a :: rest)) := by
  obtain ⟨ek, o, d⟩ := q
  have e1 := arrK_spec hf
  have hP1 := (hP.sing hk h0).1
  rw [FE_arr e1] at hP1
  obtain ⟨i1, i2⟩ := va_in_of' hi hj (by have := (KT_inr e1).2; omega)
  have hc0 : H[a]? = some (vp_cell (g.2.2.1 0) (n, .inl (μ.1 a))) := hP1 0 _ rfl
  refine W.iast hx hb hc0 ((hK.1.2 0 _ rfl).1 n (fun j => .int (μ.1 a j))) (fun q => by cases q) (by show ¬ (i < 0 ∨ (arrV _ _ _).slots.size ≤ _); rw [arrV_size]; exact i1) rfl rfl hdg fun H1 x1 z oq => ?_
  obtain ⟨y1, y2⟩ := r_arrSet (j := i.toNatClampNeg) (μ' := (up2 μ.1 a j x, μ.2)) hP hS hk h0 e1 rfl (fun b hb => ⟨up2_ne hb, rfl, rfl⟩) z oq (by
    rw [x1, i2]
    show some ((vp_cell _ _).setSlot j _) = some (vp_cell (g.2.2.1 0) (n, .inl (up2 μ.1 a j x a)))
    rw [← upd_up2, vp_cell_i, vp_cell_i, arrV_store]
    congr 2
    funext q
    by_cases hq : q = j
    · subst hq
      simp [updV, upd]
    · simp [updV, upd, hq])
  exact kk H1 _ y1 y2
theorem z_nar {x : Int32} (h : x = 0 ∨ x = 1) : vp_nar .boolean x = x ∧ narrow .boolean (.int x) = .int x ∧ fits .boolean (.int x) = true := by
  rcases h with rfl | rfl
  · decide +kernel
  · decide +kernel
theorem r_zast (hx : p.tables.exec = Jvm.exec) (hb : c.code = cc) (hK : KU g ot s) (hP : HP g μ H) (hS : va_S (Ag g) s.heap H locs) {a k n j : Nat} {q : Nat × Nat × Nat} {i x : Int32} (hk : μ.2.2.2.1 a = k) (h0 : ¬ k = 0) (hf : arrK KT k = some (1, n, q)) (hi : i = nI j) (hj : j < n) (hz : x = 0 ∨ x = 1) (hdg : decode cc pc = .ok (.bastore, 1))
    (kk : ∀ (H1 : Heap) (locs1 : List Loc), HP g (up2 μ.1 a j x, μ.2) H1 → va_S (Ag g) s.heap H1 locs1 → W p l e R s m args below meth c H1 locs1 cells slots Q (F0 m (pc + 1) ls rest)) : W p l e R s m args below meth c H locs cells slots Q (F0 m pc ls (.int x :: .int i :: .ref a :: rest)) := by
  obtain ⟨ek, o, d⟩ := q
  have e1 := arrK_spec hf
  have hP1 := (hP.sing hk h0).1
  rw [FE_arr e1] at hP1
  obtain ⟨i1, i2⟩ := va_in_of' hi hj (by have := (KT_inr e1).2; omega)
  have hc0 : H[a]? = some (vp_cell (g.2.2.1 1) (n, .inl (μ.1 a))) := hP1 0 _ rfl
  refine W.zast hx hb hc0 ((hK.1.2 1 _ rfl).1 n (fun j => .int (μ.1 a j))) (fun q => by cases q) (by show ¬ (i < 0 ∨ (arrV _ _ _).slots.size ≤ _); rw [arrV_size]; exact i1) rfl rfl hdg fun H1 x1 z oq => ?_
  obtain ⟨y1, y2⟩ := r_arrSet (j := i.toNatClampNeg) (μ' := (up2 μ.1 a j x, μ.2)) hP hS hk h0 e1 rfl (fun b hb => ⟨up2_ne hb, rfl, rfl⟩) z oq (by
    rw [x1, i2, (z_nar hz).2.1]
    show some ((vp_cell _ _).setSlot j _) = some (vp_cell (g.2.2.1 1) (n, .inl (up2 μ.1 a j x a)))
    rw [← upd_up2, vp_cell_i, vp_cell_i, arrV_store]
    congr 2
    funext q
    by_cases hq : q = j
    · subst hq
      simp [updV, upd]
    · simp [updV, upd, hq])
  exact kk H1 _ y1 y2
theorem r_last (hx : p.tables.exec = Jvm.exec) (hb : c.code = cc) (hK : KU g ot s) (hP : HP g μ H) (hS : va_S (Ag g) s.heap H locs) {a k n j : Nat} {q : Nat × Nat × Nat} {i : Int32} {x : Int64} (hk : μ.2.2.2.1 a = k) (h0 : ¬ k = 0) (hf : arrK KT k = some (2, n, q)) (hi : i = nI j) (hj : j < n) (hdg : decode cc pc = .ok (.lastore, 1))
    (kk : ∀ (H1 : Heap) (locs1 : List Loc), HP g (μ.1, μ.2.1, up2 μ.2.2.1 a j x, μ.2.2.2) H1 → va_S (Ag g) s.heap H1 locs1 → W p l e R s m args below meth c H1 locs1 cells slots Q (F0 m (pc + 1) ls rest)) : W p l e R s m args below meth c H locs cells slots Q (F0 m pc ls (.long x :: .int i :: .ref a :: rest)) := by
  obtain ⟨ek, o, d⟩ := q
  have e1 := arrK_spec hf
  have hP1 := (hP.sing hk h0).1
  rw [FE_arr e1] at hP1
  obtain ⟨i1, i2⟩ := va_in_of' hi hj (by have := (KT_inr e1).2; omega)
  have hc0 : H[a]? = some (vp_cell (g.2.2.1 2) (n, .inr (.inl (μ.2.2.1 a)))) := hP1 0 _ rfl
  refine W.last hx hb hc0 ((hK.1.2 2 _ rfl).1 n (fun j => .long (μ.2.2.1 a j))) (fun q => by cases q) (by show ¬ (i < 0 ∨ (arrV _ _ _).slots.size ≤ _); rw [arrV_size]; exact i1) rfl rfl hdg fun H1 x1 z oq => ?_
  obtain ⟨y1, y2⟩ := r_arrSet (j := i.toNatClampNeg) (μ' := (μ.1, μ.2.1, up2 μ.2.2.1 a j x, μ.2.2.2)) hP hS hk h0 e1 rfl (fun b hb => ⟨rfl, rfl, up2_ne hb⟩) z oq (by
    rw [x1, i2]
    show some ((vp_cell _ _).setSlot j _) = some (vp_cell (g.2.2.1 2) (n, .inr (.inl (up2 μ.2.2.1 a j x a))))
    rw [vp_cell_l, vp_cell_l, arrV_store]
    congr 2
    funext q
    by_cases hq : q = j
    · subst hq
      simp [updV, up2]
    · simp [updV, up2, hq])
  exact kk H1 _ y1 y2
/-- a reference stored into a row of references: 'μ2' is what the memory holds of the row behind it -/
theorem r_aast (hx : p.tables.exec = Jvm.exec) (hb : c.code = cc) (hK : KU g ot s) (hP : HP g μ H) (hS : va_S (Ag g) s.heap H locs) {a k n j t ek o d b : Nat} {i : Int32} (hk : μ.2.2.2.1 a = k) (h0 : ¬ k = 0) (hf : arrK KT k = some (t + 3, n, ek, o, d)) (hi : i = nI j) (hj : j < n) (hkb : μ.2.2.2.1 b = ek) (h0b : ¬ ek = 0)
    {r2 : Nat → Nat → Nat} (hr2 : ∀ q, q ≠ a → r2 q = μ.2.1 q) (hrow : ∀ q, q < n → va_up (rfs μ a n o d) j (some b) q = rfs (μ.1, r2, μ.2.2) a n o d q) (hdg : decode cc pc = .ok (.aastore, 1))
    (kk : ∀ (H1 : Heap) (locs1 : List Loc), HP g (μ.1, r2, μ.2.2) H1 → va_S (Ag g) s.heap H1 locs1 → W p l e R s m args below meth c H1 locs1 cells slots Q (F0 m (pc + 1) ls rest)) : W p l e R s m args below meth c H locs cells slots Q (F0 m pc ls (.ref b :: .int i :: .ref a :: rest)) := by
  have e1 := arrK_spec hf
  have hP1 := (hP.sing hk h0).1
  rw [FE_arr e1] at hP1
  obtain ⟨ht, hn⟩ := KT_inr e1
  obtain ⟨i1, i2⟩ := va_in_of' hi hj (by omega)
  have hlt : i.toNatClampNeg < n := by rw [i2]; exact hj
  have hi0 : ¬ i < 0 := fun q => i1 (Or.inl q)
  have hc0 : H[a]? = some (vp_cell (g.2.2.1 (t + 3)) (n, .inr (.inr (.inr (.inr (rfs μ a n o d)))))) := hP1 0 _ rfl
  obtain ⟨fs, hfs⟩ := KT_ek e1 (by omega)
  have hPb := (hP.sing hkb h0b).1
  have eb : FE g μ ek b = .inr (ciA (t + 3), fvs μ b 0 fs) := by unfold FE; rw [hfs]
  rw [eb] at hPb
  obtain ⟨r', hr', cellV, g1, g2, g3, -⟩ := hPb 0 _ rfl
  have hcls := (hK.1.1 (ciA (t + 3)) r' hr').2
  have hob : tyA (t + 3) = .object r'.1 := ob_all ht hr'
  have hty := tysG_at (g := g) ht
  rw [hob] at hty
  obtain ⟨kA, comp, k1, k2, k3, -⟩ := (hK.1.2 (t + 3) _ hty).2
  have hcomp : comp = g.2.1.1 (ciA (t + 3)) := Option.some.inj (k3.symm.trans hcls.1)
  subst hcomp
  obtain ⟨kC, hkC, -⟩ := hcls.2
  refine W.aast hx hb hc0 (fun q h => by cases h) (fun h => by cases h) k1 k2 rfl hkC ⟨hi0, by show _ < (arrV _ _ _).slots.size; rw [arrV_size]; exact hlt⟩ g1 (fun q h => by rw [g3] at h; cases h) (by rw [g2]; exact hkC) (by rw [g2]; exact va_assign hcls) rfl rfl hdg fun H1 x1 z oq => ?_
  obtain ⟨y1, y2⟩ := r_arrSet (j := i.toNatClampNeg) (μ' := (μ.1, r2, μ.2.2)) hP hS hk h0 e1 rfl (fun q hq => ⟨rfl, hr2 q hq, rfl⟩) z oq (by
    rw [x1, i2]
    show some ((vp_cell _ _).setSlot j _) = some (vp_cell (g.2.2.1 (t + 3)) (n, .inr (.inr (.inr (.inr (rfs (μ.1, r2, μ.2.2) a n o d))))))
    rw [vp_cell_q, vp_cell_q, arrV_store]
    congr 1
    unfold arrV
    congr 2
    funext q
    show updV (fun j => va_rf (rfs μ a n o d j)) j (.ref b) q.1 = va_rf (rfs (μ.1, r2, μ.2.2) a n o d q.1)
    rw [← hrow q.1 q.2]
    by_cases hq : q.1 = j
    · simp [updV, va_up, hq]
      rfl
    · simp [updV, va_up, hq])
  exact kk H1 _ y1 y2
end RW
end
section
/-! New cells, copies of rows, statics. -/
section NR
variable {p : Program} {l : Launch} {e : Env} {R : Room} {s : State} {m : MethodId} {args : Array Value} {below : List Frame} {meth : Method} {c : Code} {H : Heap} {locs : List Loc} {cells slots : Nat} {Q : State → Prop}
variable {cc : ByteArray} {pc : Nat} {ls : Array Slot} {rest : List Value} {g : GPT} {ot : OT} {μ : MM} {own : String}
/-- a cell more at the heap's end -/
theorem HP.push {μ' : MM} {H1 : Heap} {k : Nat} (h : HP g μ H) (hsz : μ'.2.2.2.2 = μ.2.2.2.2 + 1) (z : H1.size = H.size + 1) (oq : ∀ q : Nat, q < H.size → H1[q]? = H[q]?) (hk : μ'.2.2.2.1 μ.2.2.2.2 = k)
    (ha : va_at g.2.1 vwCl (H.size, FE g μ' k H.size) H1) (hag : ∀ b, b ≠ μ.2.2.2.2 → μ'.2.2.2.1 b = μ.2.2.2.1 b ∧ agA μ μ' b) : HP g μ' H1 := by
  have hs := h.1
  refine ⟨by rw [z, hsz, hs], by have := h.2.1; omega, fun b hb => ?_⟩
  by_cases e : b = μ.2.2.2.2
  · subst e
    rw [hk]
    refine ⟨by have := h.2.1; omega, ?_⟩
    rw [← hs]
    exact ha
  · obtain ⟨h1, h2⟩ := hag b e
    rw [h1] at hb ⊢
    obtain ⟨h3, h4⟩ := h.2.2 b hb
    refine ⟨h3, ?_⟩
    rw [FE_ag h2]
    exact h4.kept (oq b h4.lt)
theorem S_push {H1 : Heap} (hS : va_S (Ag g) s.heap H locs) (z : H1.size = H.size + 1) (oq : ∀ q : Nat, q < H.size → H1[q]? = H[q]?) : va_S (Ag g) s.heap H1 locs :=
  ⟨Nat.le_trans hS.1 (by omega), fun x h1 h2 => (oq x (Nat.lt_of_lt_of_le h1 hS.1)).trans (hS.2.1 x h1 h2), hS.2.2⟩
theorem fvs_clr {μ : MM} {a : Nat} (h1 : ∀ k, μ.1 a k = 0) (h2 : ∀ k, μ.2.2.1 a k = 0) : ∀ (fs : List (Nat × Nat)) (T : u_T) (k0 : Nat), okFs T k0 fs = true → (∀ q ∈ fs, q.1 < 3) → ∀ k, k < fs.length → ∀ ty, parseFieldDescriptor (T (k0 + k)).2.2.1 = some ty → defaultValue ty = vp_V (fvs μ a k0 fs) k
  | [], _, _, _, _, k, hk, _, _ => absurd hk (Nat.not_lt_zero k)
  | q :: r, T, k0, hok, hq, 0, _, ty, hty => by
    simp only [okFs, Bool.and_eq_true] at hok
    rw [Nat.add_zero] at hty
    rw [hty] at hok
    have h3 := hq q List.mem_cons_self
    obtain ⟨q1, q2⟩ := q
    have e : vp_V (fvs μ a k0 ((q1, q2) :: r)) 0 = fvl μ a k0 (q1, q2) := by simp [vp_V, fvs]
    rw [e]
    have h4 := hok.1
    match q1, h3 with
    | 0, _ =>
      show _ = Value.int (μ.1 a k0)
      rw [h1]
      match q2 with
      | 0 =>
        have : ty = .int := of_decide_eq_true h4
        subst this; rfl
      | 1 =>
        have : ty = .boolean := of_decide_eq_true h4
        subst this; rfl
      | n + 2 => exact absurd h4 Bool.false_ne_true
    | 1, _ =>
      show _ = Value.long (μ.2.2.1 a k0)
      rw [h2]
      have : ty = .long := of_decide_eq_true h4
      subst this; rfl
    | 2, _ =>
      show _ = Value.null
      cases ty <;> first | rfl | exact absurd h4 Bool.false_ne_true
  | q :: r, T, k0, hok, hq, k + 1, hk, ty, hty => by
    simp only [okFs, Bool.and_eq_true] at hok
    have h := fvs_clr (a := a) h1 h2 r T (k0 + 1) hok.2 (fun x hx => hq x (List.mem_cons_of_mem _ hx)) k (by simpa using hk) ty (by rw [show k0 + 1 + k = k0 + (k + 1) by omega]; exact hty)
    rw [h]
    simp [vp_V, fvs]
theorem r_new (hx : p.tables.exec = Jvm.exec) (hb : c.code = cc) (hown : s.vm.findClass own = some m.cls) (hts : ∀ w ∈ GW, w.before args s = true) (hK : KU g ot s) (hP : HP g μ H) (hS : va_S (Ag g) s.heap H locs)
    {k ci ix n : Nat} {fs : List (Nat × Nat)} {r : vw_C} (hk : KT k = .inl (ci, fs)) (hraw : ∀ q ∈ fs, q.1 < 3) (hr : vwCl[ci]? = some r) (hn : n = r.2.2) (w1 : (Jvm.Cond.classLink own ix r.1) ∈ GW) (w2 : (Jvm.Cond.instantiable r.1 n) ∈ GW) (w3 : (Jvm.Cond.initialized r.1) ∈ GW)
    (hdg : decode cc pc = .ok (.new ix, 3)) (hc : cells + 1 ≤ R.cells) (hs : slots + n ≤ R.slots)
    (kk : ∀ (H1 : Heap), HP g (clr μ.1 μ.2.2.2.2 0, μ.2.1, clr μ.2.2.1 μ.2.2.2.2 0, up1 μ.2.2.2.1 μ.2.2.2.2 k, μ.2.2.2.2 + 1) H1 → va_S (Ag g) s.heap H1 locs → W p l e R s m args below meth c H1 locs (cells + 1) (slots + n) Q (F0 m (pc + 3) ls (.ref μ.2.2.2.2 :: rest))) :
    W p l e R s m args below meth c H locs cells slots Q (F0 m pc ls rest) := by
  subst hn
  have hrm := List.mem_of_getElem? hr
  have hKn := hK.1.1 ci _ hr
  obtain ⟨ty0, hty⟩ := ty_all r hrm
  have hok := KT_ok k
  rw [hk] at hok
  simp only [okK, hr, Bool.and_eq_true, decide_eq_true_eq] at hok
  refine W.newcK hx hb hown (hts _ w1) (hts _ w2) (hts _ w3) rfl hdg hc hs hKn.2.1 rfl fun H1 kC hkC e1 z1 o1 => ?_
  rw [hP.1]
  refine kk H1 ?_ (S_push hS z1 o1)
  refine hP.push (k := k) rfl z1 o1 up1_eq ?_ (fun b hb => ⟨up1_ne hb, clr_ne hb, rfl, clr_ne hb⟩)
  have e5 : FE g (clr μ.1 μ.2.2.2.2 0, μ.2.1, clr μ.2.2.1 μ.2.2.2.2 0, up1 μ.2.2.2.1 μ.2.2.2.2 k, μ.2.2.2.2 + 1) k H.size = .inr (ci, fvs (clr μ.1 μ.2.2.2.2 0, μ.2.1, clr μ.2.2.1 μ.2.2.2.2 0, up1 μ.2.2.2.1 μ.2.2.2.2 k, μ.2.2.2.2 + 1) H.size 0 fs) := by unfold FE; rw [hk]
  rw [e5]
  refine ⟨r, hr, (u_born ty0 hts (uw_in hrm) hKn hkC e1 hty).to fun j hj => ?_⟩
  refine fvs_clr (fun j => ?_) (fun j => ?_) fs r.2.1 0 hok.2 hraw j (by omega) (ty0 j) (by rw [Nat.zero_add]; exact hty j hj)
  · rw [hP.1]; simp [clr]
  · rw [hP.1]; simp [clr]
theorem findA {t : Nat} (hK : KU g ot s) (ht : t < 3) : s.vm.findClass ("[" ++ (tyA t).toString) = some (g.2.2.1 t) := by
  have h := (hK.1.2 t _ (tysG_at (g := g) (by omega))).2
  match t, ht with
  | 0, _ => exact h
  | 1, _ => exact h
  | 2, _ => exact h
theorem r_newa (hx : p.tables.exec = Jvm.exec) (hb : c.code = cc) (hts : ∀ w ∈ GW, w.before args s = true) (hK : KU g ot s) (hP : HP g μ H) (hS : va_S (Ag g) s.heap H locs)
    {k t n : Nat} {q : Nat × Nat × Nat} {x : Int32} {at' : ArrayType} (hk : KT k = .inr (t, n, q)) (ht : t < 3) (hat : newarray.typeOf at' = tyA t) (hxn : x = Int32.ofNat n) (w1 : (Jvm.Cond.arrayClass (newarray.typeOf at')) ∈ GW)
    (hdg : decode cc pc = .ok (.newarray at', 2)) (hc : cells + 1 ≤ R.cells) (hs : slots + n ≤ R.slots)
    (kk : ∀ (H1 : Heap), HP g (clr μ.1 μ.2.2.2.2 0, μ.2.1, clr μ.2.2.1 μ.2.2.2.2 0, up1 μ.2.2.2.1 μ.2.2.2.2 k, μ.2.2.2.2 + 1) H1 → va_S (Ag g) s.heap H1 locs → W p l e R s m args below meth c H1 locs (cells + 1) (slots + n) Q (F0 m (pc + 2) ls (.ref μ.2.2.2.2 :: rest))) :
    W p l e R s m args below meth c H locs cells slots Q (F0 m pc ls (.int x :: rest)) := by
  obtain ⟨ek, o, d⟩ := q
  have hn := (KT_inr hk).2
  have hx1 : x = nI n := hxn
  have c1 : x.toNatClampNeg = n := by rw [hx1]; exact nI_clamp (by omega)
  have hbt : componentBytes (newarray.typeOf at') ≤ 8 := by cases at' <;> decide
  refine va_newaK hx hb (hts _ w1) rfl hdg rfl (by rw [hx1]; exact nI_pos (by omega)) c1 (by
    have : n * componentBytes (newarray.typeOf at') ≤ n * 8 := Nat.mul_le_mul_left _ hbt
    omega) hc hs rfl fun H1 cA e1 z1 o1 hAr hNm => ?_
  have hcA : cA = g.2.2.1 t := by
    rw [hat] at hNm
    exact Option.some.inj (hNm.symm.trans (findA hK ht))
  subst hcA
  rw [hP.1]
  refine kk H1 ?_ (S_push hS z1 o1)
  refine hP.push (k := k) rfl z1 o1 up1_eq ?_ (fun b hb => ⟨up1_ne hb, clr_ne hb, rfl, clr_ne hb⟩)
  rw [FE_arr hk]
  show H1[H.size]? = some (vp_cell _ _)
  rw [e1, hat]
  congr 1
  have z0 : clr μ.1 μ.2.2.2.2 0 H.size = fun _ => 0 := by funext j; rw [hP.1]; simp [clr]
  have z2 : clr μ.2.2.1 μ.2.2.2.2 0 H.size = fun _ => 0 := by funext j; rw [hP.1]; simp [clr]
  match t, ht with
  | 0, _ => show _ = vp_cell _ (n, .inl (clr μ.1 μ.2.2.2.2 0 H.size)); rw [z0]; rfl
  | 1, _ => show _ = vp_cell _ (n, .inl (clr μ.1 μ.2.2.2.2 0 H.size)); rw [z0]; rfl
  | 2, _ => show _ = vp_cell _ (n, .inr (.inl (clr μ.2.2.1 μ.2.2.2.2 0 H.size))); rw [z2]; rfl
theorem r_newq (hx : p.tables.exec = Jvm.exec) (hb : c.code = cc) (hown : s.vm.findClass own = some m.cls) (hts : ∀ w ∈ GW, w.before args s = true) (hK : KU g ot s) (hP : HP g μ H) (hS : va_S (Ag g) s.heap H locs)
    {k t n ix : Nat} {q : Nat × Nat × Nat} {x : Int32} {r : vw_C} (hk : KT k = .inr (t + 3, n, q)) (hr : vwCl[ciA (t + 3)]? = some r) (hxn : x = Int32.ofNat n) (w1 : (Jvm.Cond.classLink own ix r.1) ∈ GW)
    (hdg : decode cc pc = .ok (.anewarray ix, 3)) (hc : cells + 1 ≤ R.cells) (hs : slots + n ≤ R.slots)
    (kk : ∀ (H1 : Heap), HP g (μ.1, up2 μ.2.1 μ.2.2.2.2 n 0, μ.2.2.1, up1 μ.2.2.2.1 μ.2.2.2.2 k, μ.2.2.2.2 + 1) H1 → va_S (Ag g) s.heap H1 locs → W p l e R s m args below meth c H1 locs (cells + 1) (slots + n) Q (F0 m (pc + 3) ls (.ref μ.2.2.2.2 :: rest))) :
    W p l e R s m args below meth c H locs cells slots Q (F0 m pc ls (.int x :: rest)) := by
  obtain ⟨ek, o, d⟩ := q
  obtain ⟨ht, hn⟩ := KT_inr hk
  have hx1 : x = nI n := hxn
  have c1 : x.toNatClampNeg = n := by rw [hx1]; exact nI_clamp (by omega)
  have hob := ob_all ht hr
  have hao : va_AO r.1 s := by
    refine hK.2.2.1 r.1 ?_
    match t, ht with
    | 0, _ =>
      have h1 : tyA (0 + 3) = .object RX1 := rfl
      rw [h1] at hob
      rw [← FieldType.object.inj hob]
      simp
    | 1, _ =>
      have h1 : tyA (1 + 3) = .object RX3 := rfl
      rw [h1] at hob
      rw [← FieldType.object.inj hob]
      simp
    | 2, _ =>
      have h1 : tyA (2 + 3) = .object RX8 := rfl
      rw [h1] at hob
      rw [← FieldType.object.inj hob]
      simp
  refine W.anew hx hb hown (hts _ w1) (va_AO.use hao) rfl hdg rfl (by rw [hx1]; exact nI_pos (by omega)) (by rw [c1]; omega) hc (by rw [c1]; exact hs) fun cA kA comp f1 f2 f3 f4 => ?_
  rw [c1]
  have hcA : cA = g.2.2.1 (t + 3) := by
    have h := (hK.1.2 (t + 3) _ (tysG_at (g := g) ht)).2
    rw [hob] at h
    obtain ⟨_, _, -, -, -, h4⟩ := h
    exact Option.some.inj (f1.symm.trans h4)
  subst hcA
  generalize hH1 : H.push ({ cls := g.2.2.1 (t + 3), slots := Array.replicate n .null, vm := .none } : Cell) = H1
  have z1 : H1.size = H.size + 1 := by rw [← hH1, Array.size_push]
  have e1 : H1[H.size]? = some (arrV (g.2.2.1 (t + 3)) n (fun _ => .null)) := by rw [← hH1, Array.getElem?_push_size, ← arrV_new]
  have o1 : ∀ q : Nat, q < H.size → H1[q]? = H[q]? := fun q hq => by rw [← hH1, Array.getElem?_push, if_neg (Nat.ne_of_lt hq)]
  rw [hP.1]
  refine kk H1 ?_ (S_push hS z1 o1)
  refine hP.push (k := k) rfl z1 o1 up1_eq ?_ (fun b hb => ⟨up1_ne hb, rfl, up2_ne hb, rfl⟩)
  rw [FE_arr hk]
  show H1[H.size]? = some (vp_cell _ _)
  rw [e1]
  congr 1
  show _ = vp_cell _ (n, .inr (.inr (.inr (.inr (rfs _ _ _ _ _)))))
  rw [vp_cell_q]
  unfold arrV
  congr 2
  funext j
  have : rfs (μ.1, up2 μ.2.1 μ.2.2.2.2 n 0, μ.2.2.1, up1 μ.2.2.2.1 μ.2.2.2.2 k, μ.2.2.2.2 + 1) H.size n o d j.1 = none := by
    unfold rfs
    rw [if_neg]
    rw [hP.1]
    show ¬ j.1 < up2 μ.2.1 μ.2.2.2.2 n 0 μ.2.2.2.2 n
    rw [up2_eq]
    omega
  show Value.null = va_rf (rfs _ _ _ _ _ j.1)
  rw [this]
  rfl
theorem r_copy (hx : p.tables.exec = Jvm.exec) (hb : c.code = cc) (hml : c.maxLocals = ls.size) (hown : s.vm.findClass own = some m.cls) (hts : ∀ w ∈ GW, w.before args s = true) (hK : KU g ot s) (hP : HP g μ H) (hS : va_S (Ag g) s.heap H locs)
    {ix a0 a k0 k1 n0 n1 i0 i1 n : Nat} {q0 q1 : Nat × Nat × Nat} {sp dp x : Int32} (w1 : (Jvm.Cond.methodLink own ix arraycopyName) ∈ GW) (w2 : (Jvm.Cond.native arraycopyName) ∈ GW) (w3 : (Jvm.Cond.static arraycopyName) ∈ GW) (w4 : (Jvm.Cond.initialized "java/lang/System") ∈ GW)
    (hk0 : μ.2.2.2.1 a0 = k0) (h00 : ¬ k0 = 0) (hf0 : arrK KT k0 = some (0, n0, q0)) (hk1 : μ.2.2.2.1 a = k1) (h01 : ¬ k1 = 0) (hf1 : arrK KT k1 = some (0, n1, q1)) (hsp : sp = nI i0) (hdp : dp = nI i1) (hn : x = nI n) (b0 : i0 + n ≤ n0) (b1 : i1 + n ≤ n1)
    (hframes : 1 ≤ R.frames) (hlocals : (rest.map fun v => v.category).sum + (nativeFrameWords "java/lang/System" "arraycopy" 5 + 11) ≤ R.locals) (hdg : decode cc pc = .ok (.invokestatic ix, 3))
    (kk : ∀ (H1 : Heap) (locs1 : List Loc), HP g (cpR μ.1 a0 i0 a i1 n, μ.2) H1 → va_S (Ag g) s.heap H1 locs1 → W p l e R s m args below meth c H1 locs1 cells slots Q (F0 m (pc + 3) ls rest)) : W p l e R s m args below meth c H locs cells slots Q (F0 m pc ls (.int x :: .int dp :: .ref a :: .int sp :: .ref a0 :: rest)) := by
  obtain ⟨ek0, o0, d0⟩ := q0
  obtain ⟨ek1, o1, d1⟩ := q1
  have e0 := arrK_spec hf0
  have e1 := arrK_spec hf1
  have hb0 := (KT_inr e0).2
  have hb1 := (KT_inr e1).2
  have hP0 := (hP.sing hk0 h00).1
  rw [FE_arr e0] at hP0
  have hc0 : H[a0]? = some (vp_cell (g.2.2.1 0) (n0, .inl (μ.1 a0))) := hP0 0 _ rfl
  have hP1 := (hP.sing hk1 h01).1
  rw [FE_arr e1] at hP1
  have hc1 : H[a]? = some (vp_cell (g.2.2.1 0) (n1, .inl (μ.1 a))) := hP1 0 _ rfl
  have cs : sp.toNatClampNeg = i0 := by rw [hsp]; exact nI_clamp (by omega)
  have cd : dp.toNatClampNeg = i1 := by rw [hdp]; exact nI_clamp (by omega)
  have cn : x.toNatClampNeg = n := by rw [hn]; exact nI_clamp (by omega)
  have is : sp.toInt = (i0 : Int) := by rw [hsp]; exact nI_toInt (by omega)
  have id' : dp.toInt = (i1 : Int) := by rw [hdp]; exact nI_toInt (by omega)
  have in' : x.toInt = (n : Int) := by rw [hn]; exact nI_toInt (by omega)
  intro T hT X
  obtain ⟨-, k0', hk0', cm0, hkk0⟩ := (hK.1.2 0 _ rfl).1 n0 (fun j => .int (μ.1 a0 j))
  obtain ⟨-, k1', hk1', cm1, hkk1⟩ := (hK.1.2 0 _ rfl).1 n1 (fun j => .int (μ.1 a j))
  obtain ⟨vm', X', step⟩ := X.arraycopy hx hown (hts _ w1) (hts _ w2) (hts _ w3) (hts _ w4) (src := a0) (dst := a) (cs := vp_cell (g.2.2.1 0) (n0, .inl (μ.1 a0))) (cd := vp_cell (g.2.2.1 0) (n1, .inl (μ.1 a))) (srcPos := sp) (destPos := dp) (n := x) (by rw [hT]; exact hc0) (by rw [hT]; exact hc1)
    (fun _ h => by cases h) (fun _ h => by cases h) (fun h => by cases h) (fun h => by cases h) hk0' hk1' hkk0 hkk1 (by simp [refKind]) (by rw [hsp]; exact nI_pos (by omega)) (by rw [hdp]; exact nI_pos (by omega)) (by rw [hn]; exact nI_pos (by omega))
    (by rw [is, in']; show ¬ _ > ((arrV (g.2.2.1 0) n0 (fun j => .int (μ.1 a0 j))).slots.size : Int); rw [arrV_size]; omega)
    (by rw [id', in']; show ¬ _ > ((arrV (g.2.2.1 0) n1 (fun j => .int (μ.1 a j))).slots.size : Int); rw [arrV_size]; omega)
    (fun vm₁ _ i hi => by
      have e : (vp_cell (g.2.2.1 0) (n0, .inl (μ.1 a0))).slots.getD (sp.toNatClampNeg + i) .null = .int (μ.1 a0 (sp.toNatClampNeg + i)) := by
        show (arrV (g.2.2.1 0) n0 (fun j => .int (μ.1 a0 j))).slots.getD _ _ = _
        rw [Array.getD_eq_getD_getElem?, arrV_read _ _ (by omega)]
        rfl
      refine ⟨?_, ?_⟩
      · rw [e]; rfl
      · rw [e]
        exact trivial)
    (g := F0 m pc ls (.int x :: .int dp :: .ref a :: .int sp :: .ref a0 :: rest)) rfl (by rw [hml]) (rest := rest) rfl (by rw [hb]; exact hdg) hframes (by show 2 * 0 + _ + _ ≤ _; omega)
  have ec : copied (vp_cell (g.2.2.1 0) (n0, .inl (μ.1 a0))) (vp_cell (g.2.2.1 0) (n1, .inl (μ.1 a))) sp dp x = vp_cell (g.2.2.1 0) (n1, .inl (va_cpy (μ.1 a0) (μ.1 a) sp.toNatClampNeg dp.toNatClampNeg x.toNatClampNeg)) := va_copied (fun z => .int z) (g.2.2.1 0) (g.2.2.1 0) (μ.1 a0) (μ.1 a) (by omega)
  rw [ec, cs, cd, cn] at X' step
  have hl : a < H.size := (Array.getElem?_eq_some_iff.mp hc1).1
  have ex : va_cpy (μ.1 a0) (μ.1 a) i0 i1 n = cpR μ.1 a0 i0 a i1 n a := by
    funext j
    simp [va_cpy, cpR]
  rw [ex] at X' step
  have hheap : ((T.setVm vm').setCell a (vp_cell (g.2.2.1 0) (n1, .inl (cpR μ.1 a0 i0 a i1 n a)))).heap = H.setIfInBounds a (vp_cell (g.2.2.1 0) (n1, .inl (cpR μ.1 a0 i0 a i1 n a))) := by rw [← hT]; rfl
  have oq : ∀ q : Nat, q ≠ a → (H.setIfInBounds a (vp_cell (g.2.2.1 0) (n1, .inl (cpR μ.1 a0 i0 a i1 n a))))[q]? = H[q]? := fun q hq => by simp [Array.getElem?_setIfInBounds, Ne.symm hq]
  have hA := (hP.sing hk1 h01).2
  have y1 := (r_arrSet (j := 0) (μ' := (cpR μ.1 a0 i0 a i1 n, μ.2)) hP hS hk1 h01 e1 rfl (fun b hb => ⟨cpR_ne hb, rfl, rfl⟩) (by simp) oq (show (H.setIfInBounds a _)[a]? = some _ by simp [Array.getElem?_setIfInBounds, hl]; rfl)).1
  obtain ⟨t, a1, b2⟩ := kk _ _ y1 ⟨by simp; exact hS.1, fun q g1 g2 => by
      rw [oq q (fun e => g2 (by rw [e]; exact hA))]
      exact hS.2.1 q g1 g2, fun q hq => by
      rcases List.mem_append.mp hq with h | h
      · exact hS.2.2 q h
      · obtain ⟨z, -, hz⟩ := List.mem_map.mp h
        rw [← hz]
        exact hA⟩ _ hheap X'
  exact ⟨t, step t a1, b2⟩
end NR
end
section
/-! What is checked of a method's rows by a program: each instruction is what the bytes hold, and the words that it leans on stand in the tables. -/
def exI : Nat → Nat
  | 1 => 206
  | 2 => 211
  | _ => 156
def exC : Nat → Nat
  | 1 => 210
  | 2 => 215
  | _ => 160
def exNs : List String := ["java/lang/RuntimeException", "java/lang/Exception"]
theorem at_in : ∀ i ∈ [1, 2, 3], ∀ w ∈ vx_atS RX9 (exC i) (exN i) exNs, (decide (w ∈ lw_tbl) && vx_ot w && (goodWord w || decide (w = .castable (exN i) (exN i)) || DCs.any (fun C => decide (w = .declares (Bundle.initS C))))) = true := by decide +kernel
theorem at_in2 : ∀ i ∈ [1, 2, 3], ∀ w ∈ [Jvm.Cond.classLink RX9 (exI i) (exN i), Jvm.Cond.initialized (exN i)], (decide (w ∈ lw_tbl) && vx_ot w && goodWord w) = true := by decide +kernel
section CK
variable (own : String) (cc : ByteArray) (ct : List (Nat × CI)) (fr lo : Nat) (ini rz : Bool) (ret : Option FieldType)
/-- a callee's words, its room -/
def chkC (ix : Nat) (ws : List Nat) : Bool := match lkC ct ix with
  | some (y, cb, mL, ret, n, (f2, mc, ms, l2), mode, hh, _) => decide (¬ mc = 0 ∨ ms = 0) && decide (f2 + 1 ≤ fr) && decide (8 + (mL + 11) + l2 ≤ lo) && decide (y.cls ≠ "java/lang/invoke/MethodHandle") && decide (y.cls ≠ "java/lang/invoke/VarHandle") &&
    (match mode, ws with
      | 0, [a1, b1, a2, b2, a3, b3, a4, b4] => isW a1 b1 (.methodLink own ix y) && isW a2 b2 (.static y) && isW a3 b3 (.initialized y.cls) && isW a4 b4 (.code y cb mL ret) && decide ((parseMethodDescriptor y.desc).map (fun d => d.parameters.length) = some n)
      | 4, [a1, b1, a2, b2, a3, b3, a4, b4] => isW a1 b1 (.methodLink own ix y) && isW a2 b2 (.static y) && isW a3 b3 (.initialized y.cls) && isW a4 b4 (.codeWith y cb mL ret hh) && decide ((parseMethodDescriptor y.desc).map (fun d => d.parameters.length) = some n)
      | ci + 10, [a1, b1, a2, b2, a3, b3, a4, b4, a5, b5] => decide ((vwCl[ci]?).map (fun q => q.1) = some y.cls) && isW a1 b1 (.methodLink own ix y) && isW a2 b2 (.instanceMethod y) && isW a3 b3 (.initialized y.cls) && isW a4 b4 (.code y cb mL ret) && isW a5 b5 (.selects y.cls y y) && decide ((parseMethodDescriptor y.desc).map (fun d => d.parameters.length + 1) = some n)
      | 2, [a1, b1, a2, b2, a3, b3, a4, b4] => isW a1 b1 (.methodLink own ix y) && isW a2 b2 (.instanceMethod y) && isW a3 b3 (.initialized y.cls) && isW a4 b4 (.code y cb mL ret) && decide (ret = none) && decide (y.name = "<init>") && decide ((parseMethodDescriptor y.desc).map (fun d => d.parameters.length + 1) = some n)
      | 3, [j, _, a2, b2, a3, b3, a4, b4] => decide (NMs[j]? = some (own, ix, y, RX9)) && isW a2 b2 (.instanceMethod y) && isW a3 b3 (.initialized y.cls) && isW a4 b4 (.code y cb mL ret) && decide (ret = none) && decide (y.name = "<init>") && decide ((parseMethodDescriptor y.desc).map (fun d => d.parameters.length + 1) = some n)
      | _, _ => false)
  | none => false
def chkF (ix ci f t i : Nat) : Bool := match vwCl[ci]? with
  | some r => decide (f < r.2.2) && isW t i (.fieldLink own ix (r.2.1 f).1 (r.2.1 f).2.1 (r.2.1 f).2.2.1)
  | none => false
def finF (ci f : Nat) (b : Bool) : Bool := match vwCl[ci]? with
  | some r => (r.2.1 f).2.2.2 == b && (!b || decide (r.1 = own))
  | none => false
def setK (k0 k1 ci f : Nat) : Bool := match KT k0, KT k1 with
  | .inl (c0, fs0), .inl (c1, fs1) => decide (c0 = ci) && decide (c1 = ci) && decide (fs1 = fs0.set f (fs1.getD f (0, 0))) && decide (1 ≤ k1) && decide (21 ≤ k0)
  | _, _ => false
def rawK (k n : Nat) (t1 i1 t2 i2 t3 i3 ix : Nat) : Bool := match KT k with
  | .inl (ci, fs) => (match vwCl[ci]? with
    | some r => decide (n = r.2.2) && fs.all (fun q => decide (q.1 < 3)) && isW t1 i1 (.classLink own ix r.1) && isW t2 i2 (.instantiable r.1 n) && isW t3 i3 (.initialized r.1) && decide (1 ≤ k)
    | none => false)
  | _ => false
def chkE (e : Ent) : Bool := match e with
  | (pc, i, len, an) => decide (decode cc pc = .ok (i, len)) && match i, an with
    | .iconst _, _ => decide (len = 1)
    | .bipush k, _ => decide (len = 2) && decide ((Int8.ofInt k).toInt32 = Int32.ofInt k)
    | .sipush k, _ => decide (len = 3) && decide ((Int16.ofInt k).toInt32 = Int32.ofInt k)
    | .lconst _, _ => decide (len = 1)
    | .ldc ix, [t, i, v] => decide (len = 2) && isW t i (.constant own ix (Int32.ofNat v))
    | .ldc_w ix, [t, i, v] => decide (len = 3) && isW t i (.constant own ix (Int32.ofNat v))
    | .ldc2_w ix, [t, i, v] => decide (len = 3) && isW t i (.constantLong own ix (Int64.ofNat v))
    | .iload _, _ => decide (len = 2)
    | .lload _, _ => decide (len = 2)
    | .aload _, _ => decide (len = 2)
    | .istore _, _ => decide (len = 2)
    | .lstore _, _ => decide (len = 2)
    | .astore _, _ => decide (len = 2)
    | .iload_n _, _ => decide (len = 1)
    | .lload_n _, _ => decide (len = 1)
    | .aload_n _, _ => decide (len = 1)
    | .istore_n _, _ => decide (len = 1)
    | .lstore_n _, _ => decide (len = 1)
    | .astore_n _, _ => decide (len = 1)
    | .iinc _ _, _ => decide (len = 3)
    | .goto off, [t] => decide (len = 3) && decide ((pc : Int) + off = (t : Int))
    | .ifCond _ off, [t] => decide (len = 3) && decide ((pc : Int) + off = (t : Int))
    | .if_icmp _ off, [t] => decide (len = 3) && decide ((pc : Int) + off = (t : Int))
    | .tableswitch d lo hi offs, t :: ts => decide ((pc : Int) + d = (t : Int)) && decide (offs.toList.map (fun o => (pc : Int) + o) = ts.map (fun (t : Nat) => (t : Int))) && decide (hi - lo + 1 = (ts.length : Int))
    | .lookupswitch d ps, t :: ts => decide ((pc : Int) + d = (t : Int)) && decide (ps.toList.map (fun o => (pc : Int) + o.2) = ts.map (fun (t : Nat) => (t : Int))) && (ps.toList.zip (ps.toList.drop 1)).all (fun (a, next) => a.1 < next.1)
    | .getstatic ix, [k, t, i] => decide (len = 3) && ((decide (k = 91) && isW t i (.fieldLink own ix RX6 "SHIFTS" "[I")) || (decide (k = 92) && isW t i (.fieldLink own ix RX6 "MASKS" "[I")))
    | .getfield ix, [ci, f, t, i] => decide (len = 3) && chkF own ix ci f t i
    | .putfield ix, [ci, f, t, i] => decide (len = 3) && chkF own ix ci f t i && finF own ci f false
    | .putfield ix, [ci, f, t, i, k1, k0] => decide (len = 3) && chkF own ix ci f t i && finF own ci f true && ini && setK k0 k1 ci f
    | .new ix, [0, e, j] => decide (own = RX9) && (decide (e = 1) || decide (e = 2) || decide (e = 3)) && decide (ix = exI e) && decide (len = 3) && (match SLs[j]? with
      | some q => decide (q.1 = RX9) && decide (decode cc (pc + 3) = .ok (.dup, 1)) && decide (decode cc (pc + 4) = .ok (.ldc q.2.1, 2)) && decide (decode cc (pc + 6) = .ok (.invokespecial (exC e), 3)) && decide (decode cc (pc + 9) = .ok (.athrow, 1)) && decide (6 ≤ fr) && decide (82 + 8 ≤ lo)
      | none => false)
    | .new ix, [1, k, n, t1, i1, t2, i2, t3, i3] => decide (len = 3) && rawK own k n t1 i1 t2 i2 t3 i3 ix
    | .newarray at', [k, n, t, i] => decide (len = 2) && (match KT k with
      | .inr (ty, n', _) => decide (n' = n) && decide (ty < 3) && decide (newarray.typeOf at' = tyA ty) && isW t i (.arrayClass (newarray.typeOf at')) && decide (1 ≤ k ∧ k < 90)
      | _ => false)
    | .anewarray ix, [k, n, t, i, _, _] => decide (len = 3) && (match KT k with
      | .inr (ty, n', _) => decide (n' = n) && decide (3 ≤ ty) && decide (1 ≤ k) && (match vwCl[ciA ty]? with
        | some r => isW t i (.classLink own ix r.1)
        | none => false)
      | _ => false)
    | .invokevirtual ix, ws => decide (len = 3) && chkC own ct fr lo ix ws && (match lkC ct ix with | some ci => decide (10 ≤ ci.2.2.2.2.2.2.1) | none => false)
    | .invokestatic ix, [0, a1, b1, a2, b2, a3, b3, a4, b4] => decide (len = 3) && isW a1 b1 (.methodLink own ix arraycopyName) && isW a2 b2 (.native arraycopyName) && isW a3 b3 (.static arraycopyName) && isW a4 b4 (.initialized "java/lang/System") && decide (1 ≤ fr) && decide (nativeFrameWords "java/lang/System" "arraycopy" 5 + 11 ≤ lo)
    | .invokestatic ix, [2, a1, b1, a2, b2, a3, b3, a4, b4] => decide (len = 3) && isW a1 b1 (.methodLink own ix Lib.Math.abs.name) && isW a2 b2 (.static Lib.Math.abs.name) && isW a3 b3 (.initialized "java/lang/Math") && isW a4 b4 (.code Lib.Math.abs.name Lib.Math.abs.code 1 (some .int)) && decide (1 ≤ fr) && decide (13 ≤ lo)
    | .invokestatic ix, [3, a1, b1, a2, b2, a3, b3, a4, b4] => decide (len = 3) && isW a1 b1 (.methodLink own ix Lib.Math.max.name) && isW a2 b2 (.static Lib.Math.max.name) && isW a3 b3 (.initialized "java/lang/Math") && isW a4 b4 (.code Lib.Math.max.name Lib.Math.max.code 2 (some .int)) && decide (1 ≤ fr) && decide (13 ≤ lo)
    | .invokestatic ix, 1 :: ws => decide (len = 3) && chkC own ct fr lo ix ws && (match lkC ct ix with | some ci => decide (ci.2.2.2.2.2.2.1 = 0) || decide (ci.2.2.2.2.2.2.1 = 4) | none => false)
    | .invokespecial ix, [0, a1, b1, a2, b2, a3, b3] => decide (len = 3) && isW a1 b1 (.methodLink own ix Lib.objectInit) && isW a2 b2 (.instanceMethod Lib.objectInit) && isW a3 b3 (.code Lib.objectInit ⟨#[0xb1]⟩ 1 none) && decide (1 ≤ fr) && decide (12 ≤ lo)
    | .invokespecial ix, 1 :: k1 :: ws => decide (len = 3) && chkC own ct fr lo ix ws && decide (1 ≤ k1) && decide (k1 < 90) && (match lkC ct ix with | some ci => decide (ci.2.2.2.2.2.2.1 = 2) || decide (ci.2.2.2.2.2.2.1 = 3) | none => false)
    | .ireturn, _ => decide (len = 1) && ((decide (ret = some .int) && !rz) || (decide (ret = some .boolean) && rz))
    | .lreturn, _ => decide (len = 1) && decide (ret = some .long)
    | .areturn, _ => decide (len = 1) && (match ret with | some (.object _) => true | _ => false)
    | .return_, _ => decide (len = 1) && decide (ret = none)
    | .invokestatic _, _ => false
    | .invokespecial _, _ => false
    | .new _, _ => false
    | .newarray _, _ => false
    | .anewarray _, _ => false
    | .putfield _, _ => false
    | .getfield _, _ => false
    | .getstatic _, _ => false
    | .lookupswitch _ _, _ => false
    | .tableswitch _ _ _ _, _ => false
    | .goto _, _ => false
    | .ifCond _ _, _ => false
    | .if_icmp _ _, _ => false
    | .ldc _, _ => false
    | .ldc_w _, _ => false
    | .ldc2_w _, _ => false
    | _, _ => decide (len = 1)
/-- 'new' of an exception, which the rows behind it throw -/
def isThr (e : Ent) : Bool := match e with
  | (_, .new _, _, 0 :: _) => true
  | _ => false
def chain : List Ent → Bool
  | [] => true
  | [_] => true
  | e :: e' :: r => (isThr e || decide (e'.1 = e.1 + e.2.2.1)) && chain (e' :: r)
end CK
end
section
/-! The memory's references stay of their kinds. -/
def okK2 : KD → Bool
  | .inl (_, fs) => fs.all fun q => decide (q.1 < 3) || (decide (q.1 < 24) && decide (3 < q.1))
  | .inr (t, _, ek, _, _) => decide (t < 3) || (decide (ek < 21) && decide (0 < ek))
theorem kd_ok2 : kdL.all okK2 = true := by decide +kernel
theorem KT_ok2 (k : Nat) : okK2 (KT k) = true := by
  unfold KT
  rw [List.getD_eq_getElem?_getD]
  cases h : kdL[k]? with
  | none => decide +kernel
  | some x => exact List.all_eq_true.mp kd_ok2 x (List.mem_of_getElem? h)
theorem kd_len : kdL.length = 54 := by decide +kernel
theorem KT_lt {k : Nat} {ci : Nat} {fs : List (Nat × Nat)} (h : KT k = .inl (ci, fs)) : k < 54 := by
  rcases Nat.lt_or_ge k 54 with q | q
  · exact q
  · unfold KT at h
    rw [List.getD_eq_getElem?_getD, List.getElem?_eq_none (by rw [kd_len]; exact q)] at h
    cases h
theorem KT_rf {k ci f j o : Nat} {fs : List (Nat × Nat)} (h : KT k = .inl (ci, fs)) (hf : fs[f]? = some (j + 3, o)) : j < 21 ∧ 0 < j := by
  have h0 := KT_ok2 k
  rw [h] at h0
  have h1 := List.all_eq_true.mp h0 _ (List.mem_of_getElem? hf)
  simp only [Bool.or_eq_true, Bool.and_eq_true, decide_eq_true_eq] at h1
  omega
theorem KT_re {k t n ek o d : Nat} (h : KT k = .inr (t, n, ek, o, d)) (h3 : 3 ≤ t) : ek < 21 ∧ 0 < ek := by
  have h0 := KT_ok2 k
  rw [h] at h0
  simp only [okK2, Bool.or_eq_true, Bool.and_eq_true, decide_eq_true_eq] at h0
  omega
theorem KT0 : KT 0 = .inr (0, 0, 0, 0, 0) := by decide +kernel
/-- the kinds of the cells that a cell of the memory leads to are less than 21 and not 0: nothing leads to what is new or being made -/
theorem wtK_mono {μ μ' : MM} {b : Nat} {k : Nat} (h : wtK μ b (KT k)) (hr : μ'.2.1 b = μ.2.1 b) (hk : ∀ c, 0 < μ.2.2.2.1 c → μ.2.2.2.1 c < 21 → μ'.2.2.2.1 c = μ.2.2.2.1 c) : wtK μ' b (KT k) := by
  cases hK : KT k with
  | inl q =>
    obtain ⟨ci, fs⟩ := q
    rw [hK] at h
    intro f j o hf
    obtain ⟨h1, h2⟩ := h f j o hf
    obtain ⟨h3, h4⟩ := KT_rf hK hf
    exact ⟨by rw [hk _ (by rw [h1]; exact h4) (by rw [h1]; exact h3)]; exact h1, h2⟩
  | inr q =>
    obtain ⟨t, n, ek, o, d⟩ := q
    rw [hK] at h
    intro h3
    obtain ⟨h1, h2, h4⟩ := h h3
    obtain ⟨e1, e2⟩ := KT_re hK h3
    rw [hr]
    refine ⟨h1, h2, fun j hj => ?_⟩
    have h5 := h4 j hj
    rw [hk _ (by rw [h5]; exact e2) (by rw [h5]; exact e1)]
    exact h5
/-- a new cell: of ints, or with no reference yet -/
theorem WT.new {μ : MM} (h : WT μ) {k : Nat} {f' : Nat → Nat → Int32} {l' : Nat → Nat → Int64} {r' : Nat → Nat → Nat} {z : Nat} (h0 : μ.2.2.2.1 μ.2.2.2.2 = 0) (hr : ∀ b, b ≠ μ.2.2.2.2 → r' b = μ.2.1 b)
    (hk : ∀ ci fs, KT k = .inl (ci, fs) → ∀ q ∈ fs, q.1 < 3) (hk2 : ∀ t n ek o d, KT k = .inr (t, n, ek, o, d) → 3 ≤ t → r' μ.2.2.2.2 n = 0) : WT (f', r', l', up1 μ.2.2.2.1 μ.2.2.2.2 k, z) := by
  have key : ∀ c, 0 < μ.2.2.2.1 c → μ.2.2.2.1 c < 21 → up1 μ.2.2.2.1 μ.2.2.2.2 k c = μ.2.2.2.1 c := by
    intro c h1 _
    refine up1_ne fun e => ?_
    rw [e, h0] at h1
    exact absurd h1 (Nat.lt_irrefl 0)
  intro b
  by_cases e : b = μ.2.2.2.2
  · subst e
    show wtK _ _ (KT (up1 μ.2.2.2.1 μ.2.2.2.2 k μ.2.2.2.2))
    rw [up1_eq]
    cases hK : KT k with
    | inl q =>
      obtain ⟨ci, fs⟩ := q
      intro f j o hf
      have := hk ci fs hK _ (List.mem_of_getElem? hf)
      dsimp only at this
      omega
    | inr q =>
      obtain ⟨t, n, ek, o, d⟩ := q
      intro h3
      have h5 : r' μ.2.2.2.2 n = 0 := hk2 t n ek o d hK h3
      show r' μ.2.2.2.2 n ≤ n ∧ ¬ ek = 0 ∧ ∀ j, j < r' μ.2.2.2.2 n → _
      rw [h5]
      exact ⟨Nat.zero_le _, by have := KT_re hK h3; omega, fun j hj => absurd hj (Nat.not_lt_zero j)⟩
  · show wtK _ _ (KT (up1 μ.2.2.2.1 μ.2.2.2.2 k b))
    rw [up1_ne e]
    exact wtK_mono (h b) (hr b e) key
/-- a reference into a row of references -/
theorem WT.row {μ : MM} (h : WT μ) {a k t n ek o d : Nat} (hk : μ.2.2.2.1 a = k) (hK : KT k = .inr (t + 3, n, ek, o, d)) {r' : Nat → Nat → Nat} (hr : ∀ b, b ≠ a → r' b = μ.2.1 b)
    (hf : r' a n ≤ n ∧ ∀ j, j < r' a n → μ.2.2.2.1 (if d = 0 then r' a j else a + o + d * j) = ek) : WT (μ.1, r', μ.2.2) := by
  intro b
  by_cases e : b = a
  · subst e
    show wtK _ _ (KT (μ.2.2.2.1 b))
    rw [hk, hK]
    intro h3
    exact ⟨hf.1, by have := KT_re hK h3; omega, hf.2⟩
  · exact wtK_mono (h b) (hr b e) (fun _ _ _ => rfl)
/-- a reference into a field of an object that is being made -/
theorem WT.put {μ : MM} (h : WT μ) {a k k1 ci f j o : Nat} {fs : List (Nat × Nat)} (hk : μ.2.2.2.1 a = k) (hraw : 21 ≤ k) (hK : KT k = .inl (ci, fs)) (hK1 : KT k1 = .inl (ci, fs.set f (j + 3, o))) (hj : μ.2.2.2.1 (a + o) = j) : WT (μ.1, μ.2.1, μ.2.2.1, up1 μ.2.2.2.1 a k1, μ.2.2.2.2) := by
  have key : ∀ c, 0 < μ.2.2.2.1 c → μ.2.2.2.1 c < 21 → up1 μ.2.2.2.1 a k1 c = μ.2.2.2.1 c := by
    intro c _ h2
    refine up1_ne fun e => ?_
    rw [e, hk] at h2
    omega
  intro b
  by_cases e : b = a
  · subst e
    show wtK _ _ (KT (up1 μ.2.2.2.1 b k1 b))
    rw [up1_eq, hK1]
    intro f' j' o' hf'
    have hb := h b
    rw [hk, hK] at hb
    by_cases ef : f' = f
    · subst ef
      rw [List.getElem?_set] at hf'
      simp only [if_true] at hf'
      split at hf'
      · have h1 := Option.some.inj hf'
        have h2 : j = j' := by have := congrArg Prod.fst h1; simpa using this
        have h3 : o = o' := congrArg Prod.snd h1
        subst h2; subst h3
        obtain ⟨h4, h5⟩ := KT_rf hK1 (f := f') (j := j) (o := o) (by
          rw [List.getElem?_set]
          rename_i hlt
          simp [hlt])
        refine ⟨?_, by omega⟩
        show up1 μ.2.2.2.1 b k1 (b + o) = j
        rw [key _ (by omega) (by omega)]
        exact hj
      · cases hf'
    · rw [List.getElem?_set_ne (Ne.symm ef)] at hf'
      obtain ⟨h1, h2⟩ := hb f' j' o' hf'
      obtain ⟨h3, h4⟩ := KT_rf hK hf'
      refine ⟨?_, h2⟩
      show up1 μ.2.2.2.1 b k1 (b + o') = j'
      rw [key _ (by omega) (by omega)]
      exact h1
  · show wtK _ _ (KT (up1 μ.2.2.2.1 a k1 b))
    rw [up1_ne e]
    exact wtK_mono (h b) rfl key
theorem tOKs_cons {g : GPT} {μ : MM} {v : TV} {st : List TV} : tOKs g μ (v :: st) ↔ tOK g μ v ∧ tOKs g μ st := List.forall_mem_cons
theorem tOK_i {g : GPT} {μ : MM} {x : Int32} : tOK g μ (.inl x) := trivial
theorem tOK_l {g : GPT} {μ : MM} {x : Int64} : tOK g μ (.inr (.inl x)) := trivial
theorem tOKs_nil {g : GPT} {μ : MM} : tOKs g μ [] := fun _ h => nomatch h
/-- values of other kinds stay what they say where one address gets a new kind -/
theorem tOK.keep {g : GPT} {μ μ' : MM} {v : TV} (h : tOK g μ v) (hm : ∀ b, ¬ μ.2.2.2.1 b = 0 → (∀ k a, v = .inr (.inr (k, a)) → k < 90 → b = a → μ'.2.2.2.1 b = μ.2.2.2.1 b)) : tOK g μ' v := by
  rcases v with x | x | ⟨k, a⟩
  · trivial
  · trivial
  · refine ⟨fun hk => ?_, h.2⟩
    obtain ⟨h1, h2⟩ := h.1 hk
    exact ⟨by rw [hm a (by rw [h1]; exact h2) k a rfl hk rfl]; exact h1, h2⟩
theorem nkS_spec {k : Nat} : ∀ {st : List TV}, nkS k st = true → ∀ v ∈ st, nkV k v = true
  | [], _, _, h => nomatch h
  | w :: st, hs, v, hv => by
    simp only [nkS, Bool.and_eq_true] at hs
    rcases List.mem_cons.mp hv with e | e
    · subst e; exact hs.1
    · exact nkS_spec hs.2 v e
theorem nkL_spec {k : Nat} : ∀ {lc : LC}, nkL k lc = true → ∀ (i : Nat) (v : TV), lc[i]? = some (some v) → nkV k v = true
  | [], _, i, v, h => by simp at h
  | none :: lc, hs, 0, v, h => by simp at h
  | some w :: lc, hs, 0, v, h => by
    simp only [nkL, Bool.and_eq_true] at hs
    rw [List.getElem?_cons_zero] at h
    cases h
    exact hs.1
  | none :: lc, hs, i + 1, v, h => by
    rw [List.getElem?_cons_succ] at h
    exact nkL_spec (lc := lc) hs i v h
  | some w :: lc, hs, i + 1, v, h => by
    simp only [nkL, Bool.and_eq_true] at hs
    rw [List.getElem?_cons_succ] at h
    exact nkL_spec hs.2 i v h
theorem nkV_ne {k a k' : Nat} (h : nkV k (.inr (.inr (k', a))) = true) : k' ≠ k := by
  intro e
  subst e
  simp [nkV] at h
/-- .. where the address was of kind k, and they are of others -/
theorem tOK.other {g : GPT} {μ μ' : MM} {v : TV} {a k : Nat} (h : tOK g μ v) (hk : μ.2.2.2.1 a = k) (hv : nkV k v = true) (hm : ∀ b, ¬ μ.2.2.2.1 b = 0 → b ≠ a → μ'.2.2.2.1 b = μ.2.2.2.1 b) : tOK g μ' v := by
  refine h.keep fun b hb k' a' e hk' eb => ?_
  subst e
  subst eb
  refine hm b hb fun e => ?_
  subst e
  exact nkV_ne hv ((h.1 hk').1.symm.trans hk)
end
section
/-! WHAT THE SECOND READING SAYS HOLDS OF THE MACHINE: one instruction. -/
def MO (ex : Option Nat) (μ0 μ : MM) : Prop := μ0.2.2.2.2 ≤ μ.2.2.2.2 ∧ ∀ b, b < μ0.2.2.2.2 → some b ≠ ex → μ.2.2.2.1 b = μ0.2.2.2.1 b
theorem MO.rf {ex : Option Nat} {μ : MM} : MO ex μ μ := ⟨Nat.le_refl _, fun _ _ _ => rfl⟩
theorem MO.tr {ex : Option Nat} {μ0 μ1 μ2 : MM} (h1 : MO ex μ0 μ1) (hz : μ1.2.2.2.2 ≤ μ2.2.2.2.2) (h2 : ∀ b, b < μ0.2.2.2.2 → some b ≠ ex → μ2.2.2.2.1 b = μ1.2.2.2.1 b) : MO ex μ0 μ2 := ⟨Nat.le_trans h1.1 hz, fun b h0 he => (h2 b h0 he).trans (h1.2 b h0 he)⟩
theorem HP.lt {g : GPT} {μ : MM} {H : Heap} (h : HP g μ H) {b : Nat} (hb : ¬ μ.2.2.2.1 b = 0) : b < μ.2.2.2.2 := by
  have := (h.2.2 b hb).2.lt
  rw [h.1] at this
  exact this
/-- what stands of the walk's method -/
def CX (p : Program) (s : State) (m : MethodId) (args : Array Value) (c : Code) (cc : ByteArray) (nL : Nat) (own : String) (g : GPT) (ot : OT) : Prop :=
  p.tables.exec = Jvm.exec ∧ c.code = cc ∧ c.maxLocals = nL ∧ s.vm.findClass own = some m.cls ∧ (∀ w ∈ GW, w.before args s = true) ∧ KU g ot s
section SW
variable {p : Program} {l : Launch} {e : Env} {R : Room} {s : State} {m : MethodId} {args : Array Value} {below : List Frame} {meth : Method} {c : Code} {Q : State → Prop}
variable {cc : ByteArray} {g : GPT} {ot : OT} {own : String} {nL : Nat} {ex : Option Nat} {μ0 : MM}
def WW (p : Program) (l : Launch) (e : Env) (R : Room) (s : State) (m : MethodId) (args : Array Value) (below : List Frame) (meth : Method) (c : Code) (Q : State → Prop) (g : GPT) (nL : Nat) (ex : Option Nat) (μ0 : MM)
    (pc : Nat) (lc : LC) (st : List TV) (μ : MM) (ce sl : Nat) : Prop :=
  WT μ → tOKl g μ lc → tOKs g μ st → MO ex μ0 μ → (ce ≤ R.cells ∧ sl ≤ R.slots) → ∀ (H : Heap) (locs : List Loc) (ls : Array Slot), HP g μ H → va_S (Ag g) s.heap H locs → LH ls nL lc → W p l e R s m args below meth c H locs ce sl Q (F0 m pc ls (st.map tvV))
def WWr (p : Program) (l : Launch) (e : Env) (R : Room) (s : State) (m : MethodId) (args : Array Value) (below : List Frame) (meth : Method) (c : Code) (Q : State → Prop) (g : GPT) (nL : Nat) (ex : Option Nat) (μ0 : MM) : GC := fun rest lc st μ ce sl => match rest with
  | [] => False
  | e0 :: _ => WW p l e R s m args below meth c Q g nL ex μ0 e0.1 lc st μ ce sl
/-- where a row follows on another -/
def folE (e0 : Ent) (rest : List Ent) : Prop := ∀ e1 r, rest = e1 :: r → e1.1 = e0.1 + e0.2.2.1
theorem WWr.nx {e0 : Ent} {rest : List Ent} {lc : LC} {st : List TV} {μ : MM} {ce sl : Nat} (h : WWr p l e R s m args below meth c Q g nL ex μ0 rest lc st μ ce sl) (hf : folE e0 rest) : WW p l e R s m args below meth c Q g nL ex μ0 (e0.1 + e0.2.2.1) lc st μ ce sl := by
  cases rest with
  | nil => exact h.elim
  | cons e1 r =>
    rw [← hf e1 r rfl]
    exact h
theorem goTo_hd {code : List Ent} {t : Nat} {e1 : Ent} {r : List Ent} (h : goTo code t = e1 :: r) : e1.1 = t := by
  induction code with
  | nil => cases h
  | cons e0 code ih =>
    simp only [goTo] at h
    split at h
    · rename_i he
      cases h
      exact he
    · exact ih h
theorem WWr.jp {code : List Ent} {t : Nat} {lc : LC} {st : List TV} {μ : MM} {ce sl : Nat} (h : WWr p l e R s m args below meth c Q g nL ex μ0 (goTo code t) lc st μ ce sl) : WW p l e R s m args below meth c Q g nL ex μ0 t lc st μ ce sl := by
  cases hg : goTo code t with
  | nil => rw [hg] at h; exact h.elim
  | cons e1 r =>
    rw [hg] at h
    rw [← goTo_hd hg]
    exact h
theorem goTo_sfx {code : List Ent} {t : Nat} : ∃ pre, code = pre ++ goTo code t := by
  induction code with
  | nil => exact ⟨[], rfl⟩
  | cons e0 code ih =>
    simp only [goTo]
    split
    · exact ⟨[], rfl⟩
    · obtain ⟨pre, h⟩ := ih
      exact ⟨e0 :: pre, by rw [List.cons_append, ← h]⟩
/-! what the instructions of the stack and the locals do -/
theorem s_load {pc len i : Nat} {lc : LC} {st : List TV} {μ : MM} {ce sl : Nat} {v : TV} (hg : getL lc i = some v) (k : WW p l e R s m args below meth c Q g nL ex μ0 (pc + len) lc (v :: st) μ ce sl)
    (hr : ∀ (H : Heap) (locs : List Loc) (ls : Array Slot), ls[i]? = some (Slot.val (tvV v)) → W p l e R s m args below meth c H locs ce sl Q (F0 m (pc + len) ls (tvV v :: st.map tvV)) → W p l e R s m args below meth c H locs ce sl Q (F0 m pc ls (st.map tvV))) : WW p l e R s m args below meth c Q g nL ex μ0 pc lc st μ ce sl := by
  intro wt tl ts mo rm H locs ls hP hS hL
  exact hr H locs ls (hL.2.2.2 i v (getL_at hg)) (k wt tl (tOKs_cons.mpr ⟨tl i v (getL_at hg), ts⟩) mo rm H locs ls hP hS hL)
theorem s_push {pc len : Nat} {lc : LC} {st : List TV} {μ : MM} {ce sl : Nat} {v : TV} (hv : tOK g μ v) (k : WW p l e R s m args below meth c Q g nL ex μ0 (pc + len) lc (v :: st) μ ce sl)
    (hr : ∀ (H : Heap) (locs : List Loc) (ls : Array Slot), W p l e R s m args below meth c H locs ce sl Q (F0 m (pc + len) ls (tvV v :: st.map tvV)) → W p l e R s m args below meth c H locs ce sl Q (F0 m pc ls (st.map tvV))) : WW p l e R s m args below meth c Q g nL ex μ0 pc lc st μ ce sl := by
  intro wt tl ts mo rm H locs ls hP hS hL
  exact hr H locs ls (k wt tl (tOKs_cons.mpr ⟨hv, ts⟩) mo rm H locs ls hP hS hL)
theorem s_un {pc len : Nat} {lc : LC} {st : List TV} {μ : MM} {ce sl : Nat} {v w : TV} (hv : tOK g μ v) (k : WW p l e R s m args below meth c Q g nL ex μ0 (pc + len) lc (v :: st) μ ce sl)
    (hr : ∀ (H : Heap) (locs : List Loc) (ls : Array Slot), W p l e R s m args below meth c H locs ce sl Q (F0 m (pc + len) ls (tvV v :: st.map tvV)) → W p l e R s m args below meth c H locs ce sl Q (F0 m pc ls (tvV w :: st.map tvV))) : WW p l e R s m args below meth c Q g nL ex μ0 pc lc (w :: st) μ ce sl := by
  intro wt tl ts mo rm H locs ls hP hS hL
  exact hr H locs ls (k wt tl (tOKs_cons.mpr ⟨hv, (tOKs_cons.mp ts).2⟩) mo rm H locs ls hP hS hL)
theorem s_bin {pc len : Nat} {lc : LC} {st : List TV} {μ : MM} {ce sl : Nat} {v w1 w2 : TV} (hv : tOK g μ v) (k : WW p l e R s m args below meth c Q g nL ex μ0 (pc + len) lc (v :: st) μ ce sl)
    (hr : ∀ (H : Heap) (locs : List Loc) (ls : Array Slot), W p l e R s m args below meth c H locs ce sl Q (F0 m (pc + len) ls (tvV v :: st.map tvV)) → W p l e R s m args below meth c H locs ce sl Q (F0 m pc ls (tvV w1 :: tvV w2 :: st.map tvV))) : WW p l e R s m args below meth c Q g nL ex μ0 pc lc (w1 :: w2 :: st) μ ce sl := by
  intro wt tl ts mo rm H locs ls hP hS hL
  exact hr H locs ls (k wt tl (tOKs_cons.mpr ⟨hv, (tOKs_cons.mp (tOKs_cons.mp ts).2).2⟩) mo rm H locs ls hP hS hL)
theorem s_st1 {pc len i : Nat} {lc : LC} {st : List TV} {μ : MM} {ce sl : Nat} {v : TV} (hc : tvC v = 1) (hi : i < lc.length) (k : WW p l e R s m args below meth c Q g nL ex μ0 (pc + len) (setL lc i v) st μ ce sl)
    (hr : ∀ (H : Heap) (locs : List Loc) (ls : Array Slot) (lv : List (Nat × Value)), lv_has ls nL lv → i < nL → (∀ ls' : Array Slot, lv_has ls' nL ((i, tvV v) :: lv.filter (fun q => !(q.1 == i) && !(q.1 + 1 == i && q.2.category == 2))) → W p l e R s m args below meth c H locs ce sl Q (F0 m (pc + len) ls' (st.map tvV))) → W p l e R s m args below meth c H locs ce sl Q (F0 m pc ls (tvV v :: st.map tvV))) : WW p l e R s m args below meth c Q g nL ex μ0 pc lc (v :: st) μ ce sl := by
  intro wt tl ts mo rm H locs ls hP hS hL
  obtain ⟨t1, t2⟩ := tOKs_cons.mp ts
  exact hr H locs ls _ hL.flat (by rw [← hL.1]; exact hi) fun ls' h' => k wt (tl.set t1) t2 mo rm H locs ls' hP hS (hL.st1 hc h')
theorem s_st2 {pc len i : Nat} {lc : LC} {st : List TV} {μ : MM} {ce sl : Nat} {v : TV} (hc : tvC v = 2) (hi : i + 1 < lc.length) (k : WW p l e R s m args below meth c Q g nL ex μ0 (pc + len) (setL lc i v) st μ ce sl)
    (hr : ∀ (H : Heap) (locs : List Loc) (ls : Array Slot) (lv : List (Nat × Value)), lv_has ls nL lv → i + 1 < nL → (∀ ls' : Array Slot, lv_has ls' nL ((i, tvV v) :: lv.filter (fun q => !(q.1 == i) && (!(q.1 == i + 1) && !(q.1 + 1 == i && q.2.category == 2)))) → W p l e R s m args below meth c H locs ce sl Q (F0 m (pc + len) ls' (st.map tvV))) → W p l e R s m args below meth c H locs ce sl Q (F0 m pc ls (tvV v :: st.map tvV))) : WW p l e R s m args below meth c Q g nL ex μ0 pc lc (v :: st) μ ce sl := by
  intro wt tl ts mo rm H locs ls hP hS hL
  obtain ⟨t1, t2⟩ := tOKs_cons.mp ts
  exact hr H locs ls _ hL.flat (by rw [← hL.1]; exact hi) fun ls' h' => k wt (tl.set t1) t2 mo rm H locs ls' hP hS (hL.st2 hc h')
theorem s_iinc {pc i : Nat} {n : Int} {lc : LC} {st : List TV} {μ : MM} {ce sl : Nat} {x : Int32} (hx : p.tables.exec = Jvm.exec) (hb : c.code = cc) (hg : getL lc i = some (.inl x)) (hi : i < lc.length) (hd : decode cc pc = .ok (.iinc i n, 3)) (k : WW p l e R s m args below meth c Q g nL ex μ0 (pc + 3) (setL lc i (.inl (x + Int32.ofInt n))) st μ ce sl) : WW p l e R s m args below meth c Q g nL ex μ0 pc lc st μ ce sl := by
  intro wt tl ts mo rm H locs ls hP hS hL
  have hm : (i, Value.int x) ∈ (flL lc).map fun q => (q.1, tvV q.2) := List.mem_map.mpr ⟨(i, .inl x), flL_mem.mpr (getL_at hg), rfl⟩
  obtain ⟨kk, hk⟩ := List.getElem?_of_mem hm
  exact lv_iinc hx hb hd hL.flat hk rfl (by rw [← hL.1]; exact hi) rfl fun ls' h' => k wt (tl.set trivial) ts mo rm H locs ls' hP hS (hL.st1 (v := .inl (x + Int32.ofInt n)) rfl h')
end SW
end
section
/-! Calls: what a callee's contract is, and how a caller goes on behind it. -/
/-- how the memory stands behind a call that ends -/
def PO (g : GPT) (ex : Option Nat) (μ0 μ : MM) (H : Heap) : Prop := HP g μ H ∧ WT μ ∧ MO ex μ0 μ
def okQ (g : GPT) (ex : Option Nat) (μ0 : MM) (K : OC → MM → Prop) : Array Value → State → Outcome → State → Prop := fun _ st o t =>
  (∃ (v : Option TV) (μ : MM), o = .returned (v.map tvV) ∧ PO g ex μ0 μ t.heap ∧ (∀ w, v = some w → tOK g μ w) ∧ K (.inl v) μ) ∧ va_F (Ag g) st t
def okX (g : GPT) (ex : Option Nat) (μ0 : MM) (K : OC → MM → Prop) : String → State → State → Prop := fun E st t =>
  (∃ (i : Nat) (μ : MM), i ∈ [1, 2, 3] ∧ E = exN i ∧ PO g ex μ0 μ t.heap ∧ K (.inr i) μ) ∧ va_F (Ag g) st t
def pcQ (g : GPT) (ot : OT) (As : List TV) (μ : MM) : Array Value → State → Prop := fun v U => v = (As.map tvV).toArray ∧ HP g μ U.heap ∧ KU g ot U
/-- the object that a constructor makes -/
def exO (mode : Nat) (As : List TV) : Option Nat := if mode = 2 ∨ mode = 3 then (match As with
  | .inr (.inr (_, a)) :: _ => some a
  | _ => none) else none
def wsOf (ci : CI) : List Jvm.Cond := (if ci.2.2.2.2.2.2.1 = 4 then Jvm.Cond.codeWith ci.1 ci.2.1 ci.2.2.1 ci.2.2.2.1 ci.2.2.2.2.2.2.2.1 else Jvm.Cond.code ci.1 ci.2.1 ci.2.2.1 ci.2.2.2.1) :: GW
def rmOf (ci : CI) : Room := { frames := ci.2.2.2.2.2.1.1, cells := ci.2.2.2.2.2.1.2.1, slots := ci.2.2.2.2.2.1.2.2.1, locals := ci.2.2.2.2.2.1.2.2.2 }
/-- A METHOD IS SOUND: wherever its spec lets it be called, it ends as the spec says -/
def MS (g : GPT) (ot : OT) (l : Launch) (ci : CI) : Prop := ∀ (As : List TV) (μ : MM) (K : OC → MM → Prop), WT μ → tOKs g μ As → As.length = ci.2.2.2.2.1 → ci.2.2.2.2.2.2.2.2 As μ K →
  vx_Met l ci.1 (wsOf ci) (rmOf ci) (pcQ g ot As μ) (okQ g (exO ci.2.2.2.2.2.2.1 As) μ K) (okX g (exO ci.2.2.2.2.2.2.1 As) μ K) ci.2.2.2.2.2.1.2.1 ci.2.2.2.2.2.1.2.2.1 (Ag g)
section CA
variable {p : Program} {l : Launch} {e : Env} {R : Room} {s : State} {m : MethodId} {args : Array Value} {below : List Frame} {meth : Method} {c : Code} {Q : State → Prop}
variable {cc : ByteArray} {g : GPT} {ot : OT} {own : String} {nL : Nat} {H : Heap} {locs : List Loc} {ce sl mc ms pc : Nat} {ls : Array Slot} {st0 rest : List Value} {μ : MM} {ex : Option Nat} {K : OC → MM → Prop} {a : Array Value}
theorem blind_pc {As : List TV} : FrameBlind (pcQ g ot As μ) := fun a U gg mk h => ⟨h.1, h.2.1, h.2.2.moved (State.WarmedH.refl _) (fun _ _ _ => rfl)⟩
theorem pre_at {As : List TV} (hK : KU g ot s) (hP : HP g μ H) (hS : va_S (Ag g) s.heap H locs) : ∀ U : State, U.heap = H → s.WarmedH U.vm → pcQ g ot As μ (As.map tvV).toArray U := fun U hU hW =>
  ⟨rfl, by rw [hU]; exact hP, hK.moved hW fun q h1 h2 => by rw [hU]; exact hS.2.1 q h1 h2⟩
/-- behind a call: on its return, or with its throw -/
theorem w_call (hr : vx_Run p l e R s m args below meth c H locs ce sl mc ms (F0 m pc ls st0) rest (okQ g ex μ K a) (okX g ex μ K) (Ag g)) (hS : va_S (Ag g) s.heap H locs)
    (kk : ∀ (v : Option TV) (μ' : MM) (H1 : Heap) (locs1 : List Loc), PO g ex μ μ' H1 → (∀ w, v = some w → tOK g μ' w) → K (.inl v) μ' → va_S (Ag g) s.heap H1 locs1 → W p l e R s m args below meth c H1 locs1 (ce + mc) (sl + ms) Q (F0 m (pc + 3) ls ((v.map tvV).toList ++ rest)))
    (kx : ∀ (i : Nat) (μ' : MM) (H1 : Heap) (locs1 : List Loc) (q : Addr) (cell : Cell), i ∈ [1, 2, 3] → PO g ex μ μ' H1 → K (.inr i) μ' → va_S (Ag g) s.heap H1 locs1 → H1[q]? = some cell → cell.vm = .none → s.vm.findClass (exN i) = some cell.cls → vx_W p l e R s m args below meth c H1 locs1 (ce + mc) (sl + ms) Q (F0 m pc ls rest) q) :
    W p l e R s m args below meth c H locs ce sl Q (F0 m pc ls st0) := by
  intro T hT X
  rcases hr T hT X with ⟨v, st₀, t, T', L, h0, X', hL, e1, e2, ⟨⟨w, μ', hv, hp, hw, hk⟩, hF⟩, st⟩ | ⟨q, st₀, t, T', L, E, cell, h0, X', hL, e1, e2, ⟨⟨i, μ', hi, rfl, hp, hk⟩, hF⟩, hce, hcv, hcl, st⟩
  · have hv : v = w.map tvV := Outcome.returned.inj hv
    subst hv
    obtain ⟨k1, k2, k3⟩ := vx_keep h0 e1 hS (fun q _ h => h) (fun q h => h) hL hF
    obtain ⟨t2, a1, b1⟩ := kk w μ' T'.heap (locs ++ L) (by rw [e1]; exact hp) hw hk k3 T' rfl X'
    exact ⟨t2, st t2 a1, b1⟩
  · obtain ⟨k1, k2, k3⟩ := vx_keep h0 e1 hS (fun q _ h => h) (fun q h => h) hL hF
    obtain ⟨t2, a1, b1⟩ := kx i μ' T'.heap (locs ++ L) q cell hi (by rw [e1]; exact hp) hk k3 (by rw [e1]; exact hce) hcv hcl T' rfl X'
    exact ⟨t2, st.trans a1, b1⟩
/-- .. and of a constructor, which throws nothing -/
theorem w_callN (hr : va_Run p l e R s m args below meth c H locs ce sl mc ms (F0 m pc ls st0) rest (okQ g ex μ K a) (Ag g)) (hS : va_S (Ag g) s.heap H locs)
    (kk : ∀ (v : Option TV) (μ' : MM) (H1 : Heap) (locs1 : List Loc), PO g ex μ μ' H1 → (∀ w, v = some w → tOK g μ' w) → K (.inl v) μ' → va_S (Ag g) s.heap H1 locs1 → W p l e R s m args below meth c H1 locs1 (ce + mc) (sl + ms) Q (F0 m (pc + 3) ls ((v.map tvV).toList ++ rest))) :
    W p l e R s m args below meth c H locs ce sl Q (F0 m pc ls st0) := by
  intro T hT X
  obtain ⟨v, st₀, t, T', L, h0, X', hL, e1, e2, ⟨⟨w, μ', hv, hp, hw, hk⟩, hF⟩, st⟩ := hr T hT X
  have hv : v = w.map tvV := Outcome.returned.inj hv
  subst hv
  obtain ⟨k1, k2, k3⟩ := vx_keep h0 e1 hS (fun q _ h => h) (fun q h => h) hL hF
  obtain ⟨t2, a1, b1⟩ := kk w μ' T'.heap (locs ++ L) (by rw [e1]; exact hp) hw hk k3 T' rfl X'
  exact ⟨t2, st t2 a1, b1⟩
theorem met_of {y : MethodName} {ws : List Jvm.Cond} {rm : Room} {Pc : Array Value → State → Prop} {Qc : Array Value → State → Outcome → State → Prop} {XC : String → State → State → Prop} {free : Addr → Prop} (h : vx_Met l y ws rm Pc Qc XC mc ms free) (hX : ∀ E s t, ¬ XC E s t) : Met l y ws rm Pc Qc mc ms free := by
  refine MetFree.mono h (fun _ _ h => h) (fun _ _ _ _ _ h => h) fun a s o t _ hq => ?_
  rcases hq with hq | ⟨q, rfl, E, cell, L, hx, -⟩
  · exact hq
  · exact absurd hx (hX _ _ _)
/-- what chkC says of a callee -/
theorem chkC_sp {ct : List (Nat × CI)} {fr lo ix : Nat} {ws : List Nat} {ci : CI} (h : chkC own ct fr lo ix ws = true) (hl : lkC ct ix = some ci) :
    (¬ (rmOf ci).cells = 0 ∨ (rmOf ci).slots = 0) ∧ (rmOf ci).frames + 1 ≤ fr ∧ 8 + (ci.2.2.1 + 11) + (rmOf ci).locals ≤ lo ∧ ci.1.cls ≠ "java/lang/invoke/MethodHandle" ∧ ci.1.cls ≠ "java/lang/invoke/VarHandle" ∧ Jvm.Cond.initialized ci.1.cls ∈ GW ∧ (wsOf ci).head? = some ((wsOf ci).headD .tt) ∧ (wsOf ci).headD .tt ∈ GW ∧
    ((ci.2.2.2.2.2.2.1 = 0 ∨ ci.2.2.2.2.2.2.1 = 4) → Jvm.Cond.methodLink own ix ci.1 ∈ GW ∧ Jvm.Cond.static ci.1 ∈ GW ∧ (parseMethodDescriptor ci.1.desc).map (fun d => d.parameters.length) = some ci.2.2.2.2.1) ∧
    (∀ k, ci.2.2.2.2.2.2.1 = k + 10 → (vwCl[k]?).map (fun q => q.1) = some ci.1.cls ∧ Jvm.Cond.methodLink own ix ci.1 ∈ GW ∧ Jvm.Cond.instanceMethod ci.1 ∈ GW ∧ Jvm.Cond.selects ci.1.cls ci.1 ci.1 ∈ GW ∧ (parseMethodDescriptor ci.1.desc).map (fun d => d.parameters.length + 1) = some ci.2.2.2.2.1) ∧
    ((ci.2.2.2.2.2.2.1 = 2 ∨ ci.2.2.2.2.2.2.1 = 3) → ((ci.2.2.2.2.2.2.1 = 2 ∧ Jvm.Cond.methodLink own ix ci.1 ∈ GW) ∨ (ci.2.2.2.2.2.2.1 = 3 ∧ (own, ix, ci.1, RX9) ∈ NMs)) ∧ Jvm.Cond.instanceMethod ci.1 ∈ GW ∧ ci.2.2.2.1 = none ∧ ci.1.name = "<init>" ∧ (parseMethodDescriptor ci.1.desc).map (fun d => d.parameters.length + 1) = some ci.2.2.2.2.1) := by
  obtain ⟨y, cb, mL, ret, n, ⟨f2, mc, ms, l2⟩, mode, hh, sp⟩ := ci
  unfold chkC at h
  rw [hl] at h
  simp only [Bool.and_eq_true, decide_eq_true_eq] at h
  obtain ⟨⟨⟨⟨⟨h0, h1⟩, h2⟩, h3⟩, h4⟩, h5⟩ := h
  refine ⟨h0, h1, h2, h3, h4, ?_⟩
  dsimp only [wsOf]
  split at h5
  · simp only [Bool.and_eq_true, decide_eq_true_eq] at h5
    obtain ⟨⟨⟨⟨a1, a2⟩, a3⟩, a4⟩, a5⟩ := h5
    exact ⟨isW_in a3, rfl, isW_in a4, fun _ => ⟨isW_in a1, isW_in a2, a5⟩, fun k hk => absurd hk (by omega), fun hk => absurd hk (by omega)⟩
  · simp only [Bool.and_eq_true, decide_eq_true_eq] at h5
    obtain ⟨⟨⟨⟨a1, a2⟩, a3⟩, a4⟩, a5⟩ := h5
    exact ⟨isW_in a3, rfl, isW_in a4, fun _ => ⟨isW_in a1, isW_in a2, a5⟩, fun k hk => absurd hk (by omega), fun hk => absurd hk (by omega)⟩
  · rename_i k a1 b1 a2 b2 a3 b3 a4 b4 a5 b5
    simp only [Bool.and_eq_true, decide_eq_true_eq] at h5
    obtain ⟨⟨⟨⟨⟨⟨a0, a1⟩, a2⟩, a3⟩, a4⟩, a5⟩, a6⟩ := h5
    refine ⟨isW_in a3, rfl, ?_, fun hk => absurd hk (by omega), fun k' hk => ?_, fun hk => absurd hk (by omega)⟩
    · rw [if_neg (by omega)]
      exact isW_in a4
    · have : k' = k := by omega
      subst this
      exact ⟨a0, isW_in a1, isW_in a2, isW_in a5, a6⟩
  · simp only [Bool.and_eq_true, decide_eq_true_eq] at h5
    obtain ⟨⟨⟨⟨⟨⟨a1, a2⟩, a3⟩, a4⟩, a5⟩, a6⟩, a7⟩ := h5
    exact ⟨isW_in a3, rfl, isW_in a4, fun hk => absurd hk (by omega), fun k hk => absurd hk (by omega), fun _ => ⟨Or.inl ⟨rfl, isW_in a1⟩, isW_in a2, a5, a6, a7⟩⟩
  · simp only [Bool.and_eq_true, decide_eq_true_eq] at h5
    obtain ⟨⟨⟨⟨⟨⟨a1, a2⟩, a3⟩, a4⟩, a5⟩, a6⟩, a7⟩ := h5
    exact ⟨isW_in a3, rfl, isW_in a4, fun hk => absurd hk (by omega), fun k hk => absurd hk (by omega), fun _ => ⟨Or.inr ⟨rfl, List.mem_of_getElem? a1⟩, isW_in a2, a5, a6, a7⟩⟩
  · cases h5
end CA
end
section
/-! Calls, throws and handlers in the second reading. -/
section SC
variable {p : Program} {l : Launch} {e : Env} {R : Room} {s : State} {m : MethodId} {args : Array Value} {below : List Frame} {meth : Method} {c : Code} {Q : State → Prop}
variable {cc : ByteArray} {g : GPT} {ot : OT} {own : String} {nL : Nat} {ex : Option Nat} {μ0 : MM}
/-- a throw that nobody catches here -/
def hThrQ (p : Program) (l : Launch) (e : Env) (R : Room) (s : State) (m : MethodId) (args : Array Value) (below : List Frame) (meth : Method) (c : Code) (Q : State → Prop) (g : GPT) (ex : Option Nat) (μ0 : MM) (Rt : OC → MM → Prop) (hn : List (Nat × Nat × Nat × Nat)) : Prop :=
  ∀ (i : Nat) (μ : MM) (H : Heap) (locs : List Loc) (ls : Array Slot) (rest : List Value) (pc ce sl : Nat) (q : Addr) (cell : Cell), hn = [] → i ∈ [1, 2, 3] → PO g ex μ0 μ H → Rt (.inr i) μ → (ce ≤ R.cells ∧ sl ≤ R.slots) → va_S (Ag g) s.heap H locs → H[q]? = some cell → cell.vm = .none → s.vm.findClass (exN i) = some cell.cls → vx_W p l e R s m args below meth c H locs ce sl Q (F0 m pc ls rest) q
/-- a throw that a row of the table catches -/
def hCatQ (p : Program) (l : Launch) (e : Env) (R : Room) (s : State) (m : MethodId) (args : Array Value) (below : List Frame) (meth : Method) (c : Code) (Q : State → Prop) (hn : List (Nat × Nat × Nat × Nat)) : Prop :=
  ∀ (i h pc : Nat) (H : Heap) (locs : List Loc) (ls : Array Slot) (rest : List Value) (ce sl : Nat) (q : Addr) (cell : Cell), i ∈ [1, 2, 3] → catR hn pc i = some h → H[q]? = some cell → cell.vm = .none → s.vm.findClass (exN i) = some cell.cls → W p l e R s m args below meth c H locs ce sl Q (F0 m h ls [.ref q]) → vx_W p l e R s m args below meth c H locs ce sl Q (F0 m pc ls rest) q
theorem MO.none_keep {μ μ' : MM} {H : Heap} {v : TV} (h : MO none μ μ') (hP : HP g μ H) (hv : tOK g μ v) : tOK g μ' v := hv.keep fun b hb _ _ _ _ _ => h.2 b (hP.lt hb) (fun q => nomatch q)
theorem MO.none_tr {μ μ' : MM} (h0 : MO ex μ0 μ) (h : MO none μ μ') : MO ex μ0 μ' := h0.tr h.1 fun b hb _ => h.2 b (Nat.lt_of_lt_of_le hb h0.1) (fun q => nomatch q)
theorem rmP_sp {Rn : Nat × Nat} {mc ms ce sl : Nat} {P : Prop} (hR : Rn = (R.cells, R.slots)) (h : rmP Rn mc ms ce sl P) (h0 : ¬ mc = 0 ∨ ms = 0) (hb : ce ≤ R.cells ∧ sl ≤ R.slots) : (ce + mc ≤ R.cells ∧ sl + ms ≤ R.slots) ∧ P := by
  subst hR
  unfold rmP at h
  split at h
  · have : ms = 0 := by omega
    subst this
    exact ⟨hb, h⟩
  · exact h
/-- what stands behind a call: its end by aftC -/
theorem aft_ok {code : List Ent} {hn : List (Nat × Nat × Nat × Nat)} {G : GC} {Rt : OC → MM → Prop} {rest : List Ent} {lc : LC} {st : List TV} {μ : MM} {ce sl pc : Nat} {i0 : Instr} {an : List Nat}
    (hG : ∀ (es : List Ent) (lc : LC) (st : List TV) (μ : MM) (ce sl : Nat), (∃ pre, code = pre ++ es) → G es lc st μ ce sl → WWr p l e R s m args below meth c Q g nL ex μ0 es lc st μ ce sl)
    (hsf : ∃ pre, code = pre ++ rest) (hfol : folE (pc, i0, 3, an) rest) (hThr : hThrQ p l e R s m args below meth c Q g ex μ0 Rt hn) (hCat : hCatQ p l e R s m args below meth c Q hn)
    {H0 : Heap} (hP : HP g μ H0) (tl : tOKl g μ lc) (ts : tOKs g μ st) (mo : MO ex μ0 μ) (rm : ce ≤ R.cells ∧ sl ≤ R.slots) {ls : Array Slot} (hL : LH ls nL lc) :
    (∀ (v : Option TV) (μ' : MM) (H1 : Heap) (locs1 : List Loc), PO g none μ μ' H1 → (∀ w, v = some w → tOK g μ' w) → aftC code hn G Rt pc rest lc st ce sl (.inl v) μ' → va_S (Ag g) s.heap H1 locs1 → W p l e R s m args below meth c H1 locs1 ce sl Q (F0 m (pc + 3) ls ((v.map tvV).toList ++ st.map tvV))) ∧
    (∀ (i : Nat) (μ' : MM) (H1 : Heap) (locs1 : List Loc) (q : Addr) (cell : Cell), i ∈ [1, 2, 3] → PO g none μ μ' H1 → aftC code hn G Rt pc rest lc st ce sl (.inr i) μ' → va_S (Ag g) s.heap H1 locs1 → H1[q]? = some cell → cell.vm = .none → s.vm.findClass (exN i) = some cell.cls → vx_W p l e R s m args below meth c H1 locs1 ce sl Q (F0 m pc ls (st.map tvV)) q) := by
  refine ⟨fun v μ' H1 locs1 hp hw hk hS => ?_, fun i μ' H1 locs1 q cell hi hp hk hS hc hv hcl => ?_⟩
  · have tl' : tOKl g μ' lc := fun i v h => hp.2.2.none_keep hP (tl i v h)
    have ts' : tOKs g μ' st := fun v h => hp.2.2.none_keep hP (ts v h)
    have mo' := mo.none_tr hp.2.2
    cases v with
    | none =>
      have k := (hG _ _ _ _ _ _ hsf hk).nx hfol
      exact k hp.2.1 tl' ts' mo' rm H1 locs1 ls hp.1 hS hL
    | some w =>
      have k := (hG _ _ _ _ _ _ hsf hk).nx hfol
      exact k hp.2.1 tl' (tOKs_cons.mpr ⟨hw w rfl, ts'⟩) mo' rm H1 locs1 ls hp.1 hS hL
  · simp only [aftC] at hk
    split at hk
    · rename_i h hcat
      refine hCat i h pc H1 locs1 ls _ ce sl q cell hi hcat hc hv hcl ?_
      have k := (hG _ _ _ _ _ _ goTo_sfx (hk q)).jp
      exact k hp.2.1 (fun i v h => hp.2.2.none_keep hP (tl i v h)) (tOKs_cons.mpr ⟨⟨fun h => absurd h (by omega), fun _ h => absurd h (by omega)⟩, tOKs_nil⟩) (mo.none_tr hp.2.2) rm H1 locs1 ls hp.1 hS hL
    · split at hk
      · rename_i hne
        exact hThr i μ' H1 locs1 ls _ pc ce sl q cell rfl hi ⟨hp.1, hp.2.1, mo.none_tr hp.2.2⟩ hk rm hS hc hv hcl
      · exact hk.elim
theorem good_ws {ci : CI} (h : (wsOf ci).headD .tt ∈ GW) : GoodIn GW (wsOf ci) := by
  intro w hw
  rcases List.mem_cons.mp hw with e | e
  · rw [e]; exact GW_good _ h
  · exact GW_good w e
theorem s_call {fr lo : Nat} {code : List Ent} {ct : List (Nat × CI)} {hn : List (Nat × Nat × Nat × Nat)} {Rn : Nat × Nat} {G : GC} {Rt : OC → MM → Prop} {rest : List Ent} {lc : LC} {st : List TV} {μ : MM} {ce sl pc ix : Nat} {i0 : Instr} {an ws : List Nat} {ci : CI}
    (C : CX p s m args c cc nL own g ot) (hR : Rn = (R.cells, R.slots)) (hfr : fr ≤ R.frames) (hlo : lo ≤ R.locals)
    (hG : ∀ (es : List Ent) (lc : LC) (st : List TV) (μ : MM) (ce sl : Nat), (∃ pre, code = pre ++ es) → G es lc st μ ce sl → WWr p l e R s m args below meth c Q g nL ex μ0 es lc st μ ce sl)
    (hsf : ∃ pre, code = pre ++ rest) (hfol : folE (pc, i0, 3, an) rest) (hThr : hThrQ p l e R s m args below meth c Q g ex μ0 Rt hn) (hCat : hCatQ p l e R s m args below meth c Q hn)
    (hck : chkC own ct fr lo ix ws = true) (hl : lkC ct ix = some ci) (hM : MS g ot l ci)
    (hd : (decode cc pc = .ok (.invokestatic ix, 3) ∧ (ci.2.2.2.2.2.2.1 = 0 ∨ ci.2.2.2.2.2.2.1 = 4)) ∨ (decode cc pc = .ok (.invokevirtual ix, 3) ∧ 10 ≤ ci.2.2.2.2.2.2.1))
    (h : calR KT code hn Rn G Rt ci pc rest lc st μ ce sl) : WW p l e R s m args below meth c Q g nL ex μ0 pc lc st μ ce sl := by
  obtain ⟨hx, hb, hml, hown, hts, hK⟩ := C
  obtain ⟨k0, k1, k2, k3, k4, k5, -, k6, k7, k8, -⟩ := chkC_sp hck hl
  obtain ⟨y, cb, mL, ret, n, ⟨f2, mc, ms, l2⟩, mode, hh, sp⟩ := ci
  dsimp only [calR] at h
  split at h
  case isFalse => exact h.elim
  rename_i hn1
  obtain ⟨hn1, hrc, hsum⟩ := hn1
  intro wt tl ts mo rm H locs ls hP hS hL
  obtain ⟨rm2, hsp⟩ := rmP_sp hR h k0 rm
  have ts1 : tOKs g μ (st.drop n) := fun v hv => ts v (List.mem_of_mem_drop hv)
  have ta : tOKs g μ (st.take n).reverse := fun v hv => ts v (List.mem_of_mem_take (List.mem_reverse.mp hv))
  have hlen : (st.take n).reverse.length = n := by rw [List.length_reverse, List.length_take]; omega
  obtain ⟨kk, kx⟩ := aft_ok hG hsf hfol hThr hCat hP tl ts1 mo rm2 hL
  have hM1 := hM (st.take n).reverse μ _ wt ta hlen hsp
  have hex : exO mode (st.take n).reverse = none := by
    unfold exO
    rw [if_neg]
    rcases hd with ⟨-, hd | hd⟩ | ⟨-, hd⟩ <;> dsimp only at hd <;> omega
  dsimp only at hM1
  rw [hex] at hM1
  have hsum' : (((st.drop n).map tvV).map fun v => v.category).sum ≤ 8 := by rw [tvC_sum]; exact hsum
  rcases hd with ⟨hd, hmode⟩ | ⟨hd, hmode⟩
  · obtain ⟨b1, b2, b3⟩ := k7 hmode
    have hst : st.map tvV = (((st.take n).reverse.map tvV)).reverse ++ (st.drop n).map tvV := by
      rw [← List.map_reverse, List.reverse_reverse, ← List.map_append, List.take_append_drop]
    have hT : GoodIn GW (va_wsS own ix y (wsOf (y, cb, mL, ret, n, (f2, mc, ms, l2), mode, hh, sp))) := by
      intro w hw
      unfold va_wsS at hw
      rcases List.mem_append.mp hw with q | q
      · refine GW_good w ?_
        simp only [List.mem_cons, List.not_mem_nil, or_false] at q
        rcases q with rfl | rfl | rfl
        · exact b1
        · exact b2
        · exact k5
      · exact good_ws k6 w q
    rcases hmode with hmode | hmode
    · dsimp only at hmode
      subst hmode
      have hws : wsOf (y, cb, mL, ret, n, (f2, mc, ms, l2), 0, hh, sp) = Jvm.Cond.code y cb mL ret :: GW := rfl
      refine w_call (vx_runS (As := (st.take n).reverse.map tvV) (n := n) (rest := (st.drop n).map tvV) (Ts := GW) (own := own) (index := ix) (nL := nL) ⟨hx, hb, hml, hown, hts⟩ hM1 (va_cwS n hts hT hws rfl rfl ⟨k3, k4, b3⟩ ⟨Nat.le_trans k1 hfr, Nat.le_trans k2 hlo⟩) ⟨blind_pc, pre_at hK hP hS⟩ rfl (by rw [List.length_map]; exact hlen) hL.2.1 hst (lv_room hsum') hd rm2) hS kk kx
    · dsimp only at hmode
      subst hmode
      have hws : wsOf (y, cb, mL, ret, n, (f2, mc, ms, l2), 4, hh, sp) = Jvm.Cond.codeWith y cb mL ret hh :: GW := rfl
      refine w_call (vx_runSX (As := (st.take n).reverse.map tvV) (n := n) (rest := (st.drop n).map tvV) (Ts := GW) (own := own) (index := ix) (nL := nL) ⟨hx, hb, hml, hown, hts⟩ hM1 (vx_cwSW n hts hT hws rfl rfl ⟨k3, k4, b3⟩ ⟨Nat.le_trans k1 hfr, Nat.le_trans k2 hlo⟩) ⟨blind_pc, pre_at hK hP hS⟩ rfl (by rw [List.length_map]; exact hlen) hL.2.1 hst (lv_room hsum') hd rm2) hS kk kx
  · obtain ⟨cidx, rfl⟩ : ∃ k, mode = k + 10 := ⟨mode - 10, by dsimp only at hmode; omega⟩
    obtain ⟨b0, b1, b2, b3, b4⟩ := k8 cidx rfl
    have hpos : 1 ≤ n := by
      cases hp : parseMethodDescriptor y.desc with
      | none => dsimp only at b4; rw [hp] at b4; cases b4
      | some d =>
        dsimp only at b4
        rw [hp] at b4
        have := Option.some.inj b4
        dsimp only at this
        omega
    simp only [rcvK] at hrc
    split at hrc
    case h_2 => cases hrc
    rename_i k a tl0 hdr
    split at hrc
    case h_2 => cases hrc
    rename_i ci' fs hKT
    have hci : ci' = cidx := Nat.eq_of_beq_eq_true hrc
    subst hci
    have hst1 : st = st.take (n - 1) ++ .inr (.inr (k, a)) :: st.drop n := by
      have e1 : tl0 = st.drop n := by
        have := congrArg List.tail hdr
        rw [List.tail_drop, show n - 1 + 1 = n by omega] at this
        exact this.symm
      rw [← e1, ← hdr, List.take_append_drop]
    have hAs : (st.take n).reverse = .inr (.inr (k, a)) :: (st.take (n - 1)).reverse := by
      have e2 : st.take n = st.take (n - 1) ++ [.inr (.inr (k, a))] := by
        conv => lhs; rw [hst1]
        have hl1 : (st.take (n - 1)).length = n - 1 := by rw [List.length_take]; omega
        rw [List.take_append, hl1, List.take_of_length_le (by rw [hl1]; omega), show n - (n - 1) = 1 by omega]
        rfl
      rw [e2, List.reverse_append]
      rfl
    have hlt := KT_lt hKT
    have hta : tOK g μ (.inr (.inr (k, a))) := ts _ (by rw [hst1]; exact List.mem_append_right _ List.mem_cons_self)
    obtain ⟨hk1, hk0⟩ := hta.1 (by omega)
    obtain ⟨r, hr, -⟩ := KT_inl hKT
    have hcls : r.1 = y.cls := by
      dsimp only at b0
      rw [hr] at b0
      exact Option.some.inj b0
    have hP1 := (hP.sing hk1 hk0).1
    have e3 : FE g μ k a = .inr (ci', fvs μ a 0 fs) := by unfold FE; rw [hKT]
    rw [e3] at hP1
    obtain ⟨cell, c1, c2, c3⟩ := va_recv hK.1 hP1 hr (q0 := 0) rfl
    rw [hcls] at c3
    have hst : st.map tvV = ((((st.take (n - 1)).reverse).map tvV)).reverse ++ .ref a :: (st.drop n).map tvV := by
      conv => lhs; rw [hst1]
      rw [← List.map_reverse, List.reverse_reverse, List.map_append]
      rfl
    have hT : GoodIn GW (wsV own ix y.cls y (wsOf (y, cb, mL, ret, n, (f2, mc, ms, l2), ci' + 10, hh, sp))) := by
      intro w hw
      unfold wsV at hw
      rcases List.mem_append.mp hw with q | q
      · refine GW_good w ?_
        simp only [List.mem_cons, List.not_mem_nil, or_false] at q
        rcases q with rfl | rfl | rfl | rfl
        · exact b1
        · exact b2
        · exact b3
        · exact k5
      · exact good_ws k6 w q
    have hws : wsOf (y, cb, mL, ret, n, (f2, mc, ms, l2), ci' + 10, hh, sp) = Jvm.Cond.code y cb mL ret :: GW := by
      dsimp only [wsOf]
      rw [if_neg (by omega)]
    rw [hAs] at hM1
    have hpar : (parseMethodDescriptor y.desc).map (fun d => d.parameters.length) = some (n - 1) := by
      dsimp only at b4
      cases hp : parseMethodDescriptor y.desc with
      | none => rw [hp] at b4; cases b4
      | some d =>
        rw [hp] at b4
        have := Option.some.inj b4
        dsimp only at this
        show some d.parameters.length = some (n - 1)
        rw [← this]
        rfl
    refine w_call (vx_runV (As := ((st.take (n - 1)).reverse).map tvV) (n := n - 1) (rest := (st.drop n).map tvV) (Ts := GW) (own := own) (C := y.cls) (index := ix) (nL := nL) ⟨hx, hb, hml, hown, hts⟩ hM1 (cwV (n - 1) hts hT hws rfl rfl ⟨rfl, k3, k4, hpar⟩ ⟨Nat.le_trans k1 hfr, Nat.le_trans k2 hlo⟩) ⟨blind_pc, ⟨cell, c1, c2, c3⟩, pre_at hK hP hS⟩ rfl (by rw [List.length_map, List.length_reverse, List.length_take]; omega) hL.2.1 hst (lv_room hsum') hd rm2) hS kk kx
end SC
end
section
/-! A constructor's call; a throw; a method's end. -/
section ST
variable {p : Program} {l : Launch} {e : Env} {R : Room} {s : State} {m : MethodId} {args : Array Value} {below : List Frame} {meth : Method} {c : Code} {Q : State → Prop}
variable {cc : ByteArray} {g : GPT} {ot : OT} {own : String} {nL : Nat} {ex : Option Nat} {μ0 : MM}
theorem s_ctor {fr lo : Nat} {code : List Ent} {ct : List (Nat × CI)} {Rn : Nat × Nat} {G : GC} {Rt : OC → MM → Prop} {rest : List Ent} {lc : LC} {st : List TV} {μ : MM} {ce sl pc ix k1 : Nat} {i0 : Instr} {an ws : List Nat} {ci : CI}
    (C : CX p s m args c cc nL own g ot) (hR : Rn = (R.cells, R.slots)) (hfr : fr ≤ R.frames) (hlo : lo ≤ R.locals)
    (hG : ∀ (es : List Ent) (lc : LC) (st : List TV) (μ : MM) (ce sl : Nat), (∃ pre, code = pre ++ es) → G es lc st μ ce sl → WWr p l e R s m args below meth c Q g nL ex μ0 es lc st μ ce sl)
    (hsf : ∃ pre, code = pre ++ rest) (hfol : folE (pc, i0, 3, an) rest)
    (hck : chkC own ct fr lo ix ws = true) (hl : lkC ct ix = some ci) (hM : MS g ot l ci) (hk1 : 1 ≤ k1) (hk19 : k1 < 90)
    (hd : decode cc pc = .ok (.invokespecial ix, 3)) (hmode : ci.2.2.2.2.2.2.1 = 2 ∨ ci.2.2.2.2.2.2.1 = 3)
    (h : ctoR Rn μ0.2.2.2.2 ex G Rt ci k1 pc rest lc st μ ce sl) : WW p l e R s m args below meth c Q g nL ex μ0 pc lc st μ ce sl := by
  obtain ⟨hx, hb, hml, hown, hts, hK⟩ := C
  obtain ⟨q0, q1, q2, q3, q4, q5, -, q6, -, -, q9⟩ := chkC_sp hck hl
  obtain ⟨y, cb, mL, ret, n, ⟨f2, mc, ms, l2⟩, mode, hh, sp⟩ := ci
  dsimp only [ctoR] at h
  split at h
  case h_2 => exact h.elim
  rename_i k a k' a' st'
  split at h
  case isFalse => exact h.elim
  rename_i hc
  obtain ⟨hn1, hkk, hk90, hnS, hnL, hsum⟩ := hc
  subst hn1
  subst hkk
  obtain ⟨hae, hxo, h⟩ := h
  subst hae
  intro wt tl ts mo rm H locs ls hP hS hL
  obtain ⟨rm2, hsp⟩ := rmP_sp hR h q0 rm
  obtain ⟨t1, ts1⟩ := tOKs_cons.mp ts
  obtain ⟨t2, ts2⟩ := tOKs_cons.mp ts1
  have ta : tOKs g μ [.inr (.inr (k, a'))] := tOKs_cons.mpr ⟨t1, tOKs_nil⟩
  have hM1 := hM [.inr (.inr (k, a'))] μ _ wt ta rfl hsp
  have hex : exO mode [.inr (.inr (k, a'))] = some a' := by
    unfold exO
    rw [if_pos hmode]
  dsimp only at hM1
  rw [hex] at hM1
  obtain ⟨b1, b2, b3, b4, b5⟩ := q9 hmode
  dsimp only at b1 b2 b3 b4 b5
  subst b3
  have hws : wsOf (y, cb, mL, none, 1, (f2, mc, ms, l2), mode, hh, sp) = Jvm.Cond.code y cb mL none :: GW := by
    dsimp only [wsOf]
    rw [if_neg (by dsimp only at hmode; omega)]
  have hpar : (parseMethodDescriptor y.desc).map (fun d => d.parameters.length) = some 0 := by
    cases hp : parseMethodDescriptor y.desc with
    | none => rw [hp] at b5; cases b5
    | some d =>
      rw [hp] at b5
      have := Option.some.inj b5
      dsimp only at this
      show some d.parameters.length = some 0
      congr 1
      omega
  have hgw := good_ws q6
  have hM2 := met_of hM1 (fun E s t hX => by
    obtain ⟨⟨i, μ', -, -, -, hk⟩, -⟩ := hX
    exact hk)
  obtain ⟨e1, e2⟩ := t1.1 hk90
  have fin : ∀ (v : Option TV) (μ' : MM) (H1 : Heap) (locs1 : List Loc), PO g (some a') μ μ' H1 → (∀ w, v = some w → tOK g μ' w) → (match (.inl v : OC) with
        | .inl none => μ'.2.2.2.1 a' = k1 ∧ G rest lc (.inr (.inr (k1, a')) :: st') μ' (ce + mc) (sl + ms)
        | _ => False) → va_S (Ag g) s.heap H1 locs1 → W p l e R s m args below meth c H1 locs1 (ce + mc) (sl + ms) Q (F0 m (pc + 3) ls ((v.map tvV).toList ++ (Value.ref a' :: st'.map tvV))) := by
    intro v μ' H1 locs1 hp hw hk hS1
    cases v with
    | some w => exact hk.elim
    | none =>
      obtain ⟨hk2, hk3⟩ := hk
      have kk := (hG _ _ _ _ _ _ hsf hk3).nx hfol
      obtain ⟨p1, p2, p3⟩ := hp
      have hm : ∀ b, ¬ μ.2.2.2.1 b = 0 → b ≠ a' → μ'.2.2.2.1 b = μ.2.2.2.1 b := fun b hb hne => p3.2 b (hP.lt hb) (fun q => hne (Option.some.inj q))
      refine kk p2 (fun i v hi => (tl i v hi).other e1 (nkL_spec hnL i v hi) hm) (tOKs_cons.mpr ⟨⟨fun _ => ⟨hk2, by omega⟩, fun h9 _ => absurd h9 (by omega)⟩, fun v hv => (ts2 v hv).other e1 (nkS_spec hnS v hv) hm⟩) (mo.tr p3.1 fun b hb hne => p3.2 b (Nat.lt_of_lt_of_le hb mo.1) fun q => ?_) rm2 H1 locs1 ls p1 hS1 hL
      have hba := Option.some.inj q
      subst hba
      rcases hxo with h7 | h7
      · exact hne h7.symm
      · omega
  have hini : (Jvm.Cond.initialized y.cls).before args s = true := hts _ q5
  rcases b1 with ⟨-, b1⟩ | ⟨-, b1⟩
  · refine w_callN (va_runI (As := []) (n := 0) (b := a') (rest := Value.ref a' :: st'.map tvV) (Ts := GW) (own := own) (index := ix) (nL := nL) ⟨hx, hb, hml, hown, hts⟩ hM2 (cwI 0 hts hgw hws rfl rfl hini (hts _ b1) (hts _ b2) b4 ⟨q3, q4, hpar⟩ ⟨Nat.le_trans q1 hfr, Nat.le_trans q2 hlo⟩) ⟨blind_pc, pre_at hK hP hS⟩ rfl rfl hL.2.1 rfl (lv_room hsum) hd rm2) hS fin
  · have hnw := hK.2.2.2.1 _ b1
    refine w_callN (va_runIN (As := []) (n := 0) (b := a') (rest := Value.ref a' :: st'.map tvV) (Ts := GW) (own := own) (index := ix) (nL := nL) ⟨hx, hb, hml, hown, hts⟩ hM2 ⟨va_cnB 0 hts hgw hws rfl rfl hnw hini ⟨q3, q4, hpar⟩ ⟨Nat.le_trans q1 hfr, Nat.le_trans q2 hlo⟩, b4, hts _ b2⟩ ⟨blind_pc, pre_at hK hP hS⟩ rfl rfl hL.2.1 rfl (lv_room hsum) hd rm2) hS fin
end ST
end
section
/-! ONE INSTRUCTION OF THE SECOND READING IS THE MACHINE'S. -/
def retI (ret : Option FieldType) (rz : Bool) (i : Instr) (v : Option TV) : Prop := match i, v with
  | .ireturn, some (.inl x) => (ret = some .int ∧ rz = false) ∨ (ret = some .boolean ∧ rz = true ∧ (x = 0 ∨ x = 1))
  | .lreturn, some (.inr (.inl _)) => ret = some .long
  | .areturn, some (.inr (.inr _)) => ∃ n, ret = some (.object n)
  | .return_, none => ret = none
  | _, _ => False
def hRetQ (p : Program) (l : Launch) (e : Env) (R : Room) (s : State) (m : MethodId) (args : Array Value) (below : List Frame) (meth : Method) (c : Code) (Q : State → Prop) (cc : ByteArray) (ret : Option FieldType) (rz : Bool) (g : GPT) (ex : Option Nat) (μ0 : MM) (Rt : OC → MM → Prop) : Prop :=
  ∀ (v : Option TV) (i : Instr) (μ : MM) (H : Heap) (locs : List Loc) (ls : Array Slot) (pc ce sl : Nat), retI ret rz i v → decode cc pc = .ok (i, 1) → PO g ex μ0 μ H → (∀ w, v = some w → tOK g μ w) → (ce ≤ R.cells ∧ sl ≤ R.slots) → va_S (Ag g) s.heap H locs → Rt (.inl v) μ → W p l e R s m args below meth c H locs ce sl Q (F0 m pc ls (v.map tvV).toList)
def hNewQ (p : Program) (l : Launch) (e : Env) (R : Room) (s : State) (m : MethodId) (args : Array Value) (below : List Frame) (meth : Method) (c : Code) (Q : State → Prop) (cc : ByteArray) (nL : Nat) (own : String) (g : GPT) (ex : Option Nat) (μ0 : MM) (Rt : OC → MM → Prop) : Prop :=
  ∀ (i j : Nat) (q : String × Nat × String) (μ : MM) (H : Heap) (locs : List Loc) (ls : Array Slot) (pc ce sl : Nat), own = RX9 → i ∈ [1, 2, 3] → SLs[j]? = some q → q.1 = RX9 → decode cc pc = .ok (.new (exI i), 3) → decode cc (pc + 3) = .ok (.dup, 1) → decode cc (pc + 4) = .ok (.ldc q.2.1, 2) → decode cc (pc + 6) = .ok (.invokespecial (exC i), 3) → decode cc (pc + 9) = .ok (.athrow, 1) → 6 ≤ R.frames → 90 ≤ R.locals →
    PO g ex μ0 μ H → (ce + 1 ≤ R.cells ∧ sl + 6 ≤ R.slots) → va_S (Ag g) s.heap H locs → ls.size = nL → (∀ z : Nat, μ.2.2.2.2 ≤ z → Rt (.inr i) (μ.1, μ.2.1, μ.2.2.1, μ.2.2.2.1, z)) → W p l e R s m args below meth c H locs ce sl Q (F0 m pc ls [])
theorem chkF_sp {own : String} {ix ci f t i : Nat} (h : chkF own ix ci f t i = true) : ∃ r : vw_C, vwCl[ci]? = some r ∧ f < r.2.2 ∧ (Jvm.Cond.fieldLink own ix (r.2.1 f).1 (r.2.1 f).2.1 (r.2.1 f).2.2.1) ∈ GW := by
  unfold chkF at h
  split at h
  · rename_i r hr
    simp only [Bool.and_eq_true, decide_eq_true_eq] at h
    exact ⟨r, hr, h.1, isW_in h.2⟩
  · cases h
theorem finF_sp {own : String} {ci f : Nat} {b : Bool} {r : vw_C} (h : finF own ci f b = true) (hr : vwCl[ci]? = some r) : (r.2.1 f).2.2.2 = b ∧ (b = true → r.1 = own) := by
  unfold finF at h
  rw [hr] at h
  simp only [Bool.and_eq_true, Bool.or_eq_true, Bool.not_eq_true', decide_eq_true_eq, beq_iff_eq] at h
  exact ⟨h.1, fun hb => h.2.resolve_left (by rw [hb]; decide)⟩
theorem setK_sp {k0 k1 ci f : Nat} (h : setK k0 k1 ci f = true) : ∃ fs0 : List (Nat × Nat), KT k0 = .inl (ci, fs0) ∧ KT k1 = .inl (ci, fs0.set f ((match KT k1 with | .inl (_, fs1) => fs1 | .inr _ => []).getD f (0, 0))) ∧ 1 ≤ k1 ∧ 21 ≤ k0 := by
  unfold setK at h
  split at h
  · rename_i c0 fs0 c1 fs1 e0 e1
    simp only [Bool.and_eq_true, decide_eq_true_eq] at h
    obtain ⟨⟨⟨⟨rfl, rfl⟩, h1⟩, h2⟩, h3⟩ := h
    exact ⟨fs0, e0, by rw [e1]; dsimp only; rw [← h1], h2, h3⟩
  · cases h
section SP
variable {p : Program} {l : Launch} {e : Env} {R : Room} {s : State} {m : MethodId} {args : Array Value} {below : List Frame} {meth : Method} {c : Code} {Q : State → Prop}
variable {cc : ByteArray} {g : GPT} {ot : OT} {own : String} {nL : Nat} {ex : Option Nat} {μ0 : MM}
/-- a field's value is of its kind -/
theorem s_getf {pc ix ci f : Nat} {t i : Nat} {lc : LC} {st : List TV} {μ : MM} {ce sl k a : Nat} {q : Nat × Nat} {v : TV} (C : CX p s m args c cc nL own g ot) (hd : decode cc pc = .ok (.getfield ix, 3)) (hc : chkF own ix ci f t i = true) (hf : fldK KT k ci f = some q) (hv : tvV v = fvl μ a f q) (hk90 : k < 90)
    (hvt : WT μ → μ.2.2.2.1 a = k → tOK g μ v) (kk : WW p l e R s m args below meth c Q g nL ex μ0 (pc + 3) lc (v :: st) μ ce sl) : WW p l e R s m args below meth c Q g nL ex μ0 pc lc (.inr (.inr (k, a)) :: st) μ ce sl := by
  obtain ⟨hx, hb, hml, hown, hts, hK⟩ := C
  intro wt tl ts mo rm H locs ls hP hS hL
  obtain ⟨t1, t2⟩ := tOKs_cons.mp ts
  obtain ⟨e1, e2⟩ := t1.1 hk90
  obtain ⟨r, hr, hn, hw⟩ := chkF_sp hc
  refine r_get hx hb hown hts hK hP e1 e2 hf hr hn hw hd ?_
  rw [← hv]
  exact kk wt tl (tOKs_cons.mpr ⟨hvt wt e1, t2⟩) mo rm H locs ls hP hS hL
theorem fld90 {k ci f : Nat} {q : Nat × Nat} (h : fldK KT k ci f = some q) : k < 90 := by
  obtain ⟨fs, h1, -⟩ := fldK_spec h
  have := KT_lt h1
  omega
theorem arr90 {k : Nat} {q : Nat × Nat × Nat × Nat × Nat} (h : arrK KT k = some q) (hq : ¬ q.2.1 = 0) : k < 90 := by
  have h1 := arrK_spec h
  rcases Nat.lt_or_ge k 90 with h2 | h2
  · exact h2
  · unfold KT at h1
    rw [List.getD_eq_getElem?_getD, List.getElem?_eq_none (by rw [kd_len]; omega)] at h1
    have h3 : (0, 0, 0, 0, 0) = q := Sum.inr.inj h1
    rw [← h3] at hq
    exact absurd rfl hq
/-- a field of ints or longs, written -/
theorem s_putf {pc ix ci f t i : Nat} {lc : LC} {st : List TV} {μ μ' : MM} {ce sl k a : Nat} {q : Nat × Nat} {v : TV} {ty : FieldType} (C : CX p s m args c cc nL own g ot) (hd : decode cc pc = .ok (.putfield ix, 3)) (hc : chkF own ix ci f t i = true) (hfin : finF own ci f false = true) (hf : fldK KT k ci f = some q)
    (hty : okF q ty = true → narrow ty (tvV v) = tvV v ∧ fits ty (tvV v) = true) (hall : ∀ ty', okF q ty' = true → ty' = ty) (h2 : μ'.2.2.2 = μ.2.2.2) (h3 : μ'.2.1 = μ.2.1) (hag : ∀ b, b ≠ a → agA μ μ' b) (hme : fvl μ' a f q = tvV v) (hoth : ∀ j q', j ≠ f → fvl μ' a j q' = fvl μ a j q')
    (kk : WW p l e R s m args below meth c Q g nL ex μ0 (pc + 3) lc st μ' ce sl) : WW p l e R s m args below meth c Q g nL ex μ0 pc lc (v :: .inr (.inr (k, a)) :: st) μ ce sl := by
  obtain ⟨hx, hb, hml, hown, hts, hK⟩ := C
  intro wt tl ts mo rm H locs ls hP hS hL
  obtain ⟨-, t1⟩ := tOKs_cons.mp ts
  obtain ⟨t1, t2⟩ := tOKs_cons.mp t1
  obtain ⟨e1, e2⟩ := t1.1 (fld90 hf)
  obtain ⟨r, hr, hn, hw⟩ := chkF_sp hc
  obtain ⟨fs, g1, g2⟩ := fldK_spec hf
  obtain ⟨r', hr', hlen, hok⟩ := KT_inl g1
  cases Option.some.inj (hr'.symm.trans hr)
  obtain ⟨ty', hp, hok2⟩ := hok f q g2
  have := hall ty' hok2
  subst this
  obtain ⟨n1, n2⟩ := hty hok2
  have hk' : μ'.2.2.2.1 = μ.2.2.2.1 := by rw [h2]
  refine r_putV hx hb hown hts hK hP hS e1 e2 hf hr hn hw (Or.inl (finF_sp hfin hr).1) hp n1 n2 hd (μ' := μ') (k1 := k) (fs1 := fs) (by rw [hk']; exact e1) g1 (by rw [h2]) (fun b hb => ⟨by rw [hk'], hag b hb⟩) (fun fs' hfs' j hj => ?_) fun H1 locs1 hP1 hS1 => ?_
  · have hfe : fs' = fs := by have := Sum.inl.inj (hfs'.symm.trans g1); exact congrArg Prod.snd this
    subst hfe
    rw [vpf]
    by_cases hjf : j = f
    · subst hjf
      rw [g2]
      show updV _ j _ j = fvl μ' a (0 + j) q
      rw [Nat.zero_add, hme]
      simp [updV]
    · show (if j = f then _ else vp_V (fvs μ a 0 fs') j) = _
      rw [if_neg hjf, vpf]
      cases hq : fs'[j]? with
      | none => rfl
      | some q' =>
        show fvl μ a (0 + j) q' = fvl μ' a (0 + j) q'
        rw [Nat.zero_add, hoth j q' hjf]
  · have wt' : WT μ' := by
      intro b
      rw [hk']
      refine wtK_mono (wt b) ?_ (fun c _ _ => by rw [hk'])
      rw [h3]
    refine kk wt' (fun i v hi => (tl i v hi).keep fun b _ _ _ _ _ _ => by rw [hk']) (fun v hv => (t2 v hv).keep fun b _ _ _ _ _ _ => by rw [hk']) (mo.tr (by rw [h2]; exact Nat.le_refl _) fun b _ _ => by rw [hk']) rm H1 locs1 ls hP1 hS1 hL
end SP
end
section
/-! ANY INSTRUCTION. -/
section SN
variable {p : Program} {l : Launch} {e : Env} {R : Room} {s : State} {m : MethodId} {args : Array Value} {below : List Frame} {meth : Method} {c : Code} {Q : State → Prop}
variable {cc : ByteArray} {g : GPT} {ot : OT} {own : String} {nL : Nat} {ex : Option Nat} {μ0 : MM}
theorem s_keep {μ μ' : MM} {pc : Nat} {lc : LC} {st : List TV} {ce sl : Nat} (kk : WW p l e R s m args below meth c Q g nL ex μ0 pc lc st μ' ce sl) (h2 : μ'.2.2.2 = μ.2.2.2) (wt' : WT μ') (tl : tOKl g μ lc) (t2 : tOKs g μ st) (mo : MO ex μ0 μ) (rm : ce ≤ R.cells ∧ sl ≤ R.slots) {H : Heap} {locs : List Loc} {ls : Array Slot} (hP : HP g μ' H) (hS : va_S (Ag g) s.heap H locs) (hL : LH ls nL lc) :
    W p l e R s m args below meth c H locs ce sl Q (F0 m pc ls (st.map tvV)) :=
  kk wt' (fun i v hi => (tl i v hi).keep fun b _ _ _ _ _ _ => by rw [h2]) (fun v hv => (t2 v hv).keep fun b _ _ _ _ _ _ => by rw [h2]) (mo.tr (by rw [h2]; exact Nat.le_refl _) fun b _ _ => by rw [h2]) rm H locs ls hP hS hL
theorem wt_i {μ : MM} {f : Nat → Nat → Int32} (h : WT μ) : WT (f, μ.2) := fun b => wtK_mono (μ' := (f, μ.2)) (h b) rfl (fun _ _ _ => rfl)
theorem wt_l {μ : MM} {f : Nat → Nat → Int64} (h : WT μ) : WT (μ.1, μ.2.1, f, μ.2.2.2) := fun b => wtK_mono (μ' := (μ.1, μ.2.1, f, μ.2.2.2)) (h b) rfl (fun _ _ _ => rfl)
/-- behind a new cell -/
theorem s_new {pc k : Nat} {lc : LC} {st : List TV} {μ : MM} {ce sl : Nat} {f' : Nat → Nat → Int32} {l' : Nat → Nat → Int64} {r' : Nat → Nat → Nat} (hk1 : 1 ≤ k) (hk90 : k < 90)
    (kk : WW p l e R s m args below meth c Q g nL ex μ0 pc lc (.inr (.inr (k, μ.2.2.2.2)) :: st) (f', r', l', up1 μ.2.2.2.1 μ.2.2.2.2 k, μ.2.2.2.2 + 1) ce sl)
    (wt' : WT (f', r', l', up1 μ.2.2.2.1 μ.2.2.2.2 k, μ.2.2.2.2 + 1)) (tl : tOKl g μ lc) (t2 : tOKs g μ st) (mo : MO ex μ0 μ) (rm : ce ≤ R.cells ∧ sl ≤ R.slots) {H0 H : Heap} {locs : List Loc} {ls : Array Slot} (hP0 : HP g μ H0) (hP : HP g (f', r', l', up1 μ.2.2.2.1 μ.2.2.2.2 k, μ.2.2.2.2 + 1) H) (hS : va_S (Ag g) s.heap H locs) (hL : LH ls nL lc) :
    W p l e R s m args below meth c H locs ce sl Q (F0 m pc ls (.ref μ.2.2.2.2 :: st.map tvV)) := by
  have key : ∀ b, ¬ μ.2.2.2.1 b = 0 → up1 μ.2.2.2.1 μ.2.2.2.2 k b = μ.2.2.2.1 b := fun b hb => up1_ne (by have := hP0.lt hb; omega)
  exact kk wt' (fun i v hi => (tl i v hi).keep fun b hb _ _ _ _ _ => key b hb) (tOKs_cons.mpr ⟨⟨fun _ => ⟨up1_eq, by omega⟩, fun h _ => absurd h (by omega)⟩, fun v hv => (t2 v hv).keep fun b hb _ _ _ _ _ => key b hb⟩)
    (mo.tr (Nat.le_succ _) fun b hb _ => up1_ne (by have := mo.1; omega)) rm H locs ls hP hS hL
theorem k0_at {μ : MM} {H : Heap} (hP : HP g μ H) : μ.2.2.2.1 μ.2.2.2.2 = 0 := by
  rcases Nat.eq_zero_or_pos (μ.2.2.2.1 μ.2.2.2.2) with h | h
  · exact h
  · have := hP.lt (b := μ.2.2.2.2) (by omega)
    omega
theorem off_eq {pc t : Nat} {off : Int} (h : (pc : Int) + off = (t : Int)) : (pc : Int) + off = (t : Int) := h
set_option maxHeartbeats 4000000 in
theorem s_if {pc t : Nat} {cnd : ClassFile.Cond} {off : Int} {lc : LC} {st : List TV} {μ : MM} {ce sl : Nat} {x : Int32} (hx : p.tables.exec = Jvm.exec) (hb : c.code = cc) (hd : decode cc pc = .ok (.ifCond cnd off, 3)) (ht : (pc : Int) + off = (t : Int))
    (k1 : ifP cnd x → WW p l e R s m args below meth c Q g nL ex μ0 t lc st μ ce sl) (k2 : ¬ ifP cnd x → WW p l e R s m args below meth c Q g nL ex μ0 (pc + 3) lc st μ ce sl) : WW p l e R s m args below meth c Q g nL ex μ0 pc lc (.inl x :: st) μ ce sl := by
  intro wt tl ts mo rm H locs ls hP hS hL
  have t2 := (tOKs_cons.mp ts).2
  cases cnd with
  | eq => exact lv_if_eq hx hb hd ht (fun h => k1 h wt tl t2 mo rm H locs ls hP hS hL) (fun h => k2 h wt tl t2 mo rm H locs ls hP hS hL)
  | ne => exact lv_if_ne hx hb hd ht (fun h => k1 h wt tl t2 mo rm H locs ls hP hS hL) (fun h => k2 (fun q => q h) wt tl t2 mo rm H locs ls hP hS hL)
  | lt => exact lv_if_lt hx hb hd ht (fun h => k1 h wt tl t2 mo rm H locs ls hP hS hL) (fun h => k2 h wt tl t2 mo rm H locs ls hP hS hL)
  | ge => exact lv_if_ge hx hb hd ht (fun h => k1 h wt tl t2 mo rm H locs ls hP hS hL) (fun h => k2 h wt tl t2 mo rm H locs ls hP hS hL)
  | gt => exact lv_if_gt hx hb hd ht (fun h => k1 h wt tl t2 mo rm H locs ls hP hS hL) (fun h => k2 h wt tl t2 mo rm H locs ls hP hS hL)
  | le => exact lv_if_le hx hb hd ht (fun h => k1 h wt tl t2 mo rm H locs ls hP hS hL) (fun h => k2 h wt tl t2 mo rm H locs ls hP hS hL)
theorem s_icmp {pc t : Nat} {cnd : ClassFile.Cond} {off : Int} {lc : LC} {st : List TV} {μ : MM} {ce sl : Nat} {x y : Int32} (hx : p.tables.exec = Jvm.exec) (hb : c.code = cc) (hd : decode cc pc = .ok (.if_icmp cnd off, 3)) (ht : (pc : Int) + off = (t : Int))
    (k1 : icP cnd x y → WW p l e R s m args below meth c Q g nL ex μ0 t lc st μ ce sl) (k2 : ¬ icP cnd x y → WW p l e R s m args below meth c Q g nL ex μ0 (pc + 3) lc st μ ce sl) : WW p l e R s m args below meth c Q g nL ex μ0 pc lc (.inl y :: .inl x :: st) μ ce sl := by
  intro wt tl ts mo rm H locs ls hP hS hL
  have t2 := (tOKs_cons.mp (tOKs_cons.mp ts).2).2
  cases cnd with
  | eq => exact lv_icmp_eq hx hb hd ht (fun h => k1 h wt tl t2 mo rm H locs ls hP hS hL) (fun h => k2 h wt tl t2 mo rm H locs ls hP hS hL)
  | ne => exact lv_icmp_ne hx hb hd ht (fun h => k1 h wt tl t2 mo rm H locs ls hP hS hL) (fun h => k2 (fun q => q h) wt tl t2 mo rm H locs ls hP hS hL)
  | lt => exact lv_icmp_lt hx hb hd ht (fun h => k1 h wt tl t2 mo rm H locs ls hP hS hL) (fun h => k2 h wt tl t2 mo rm H locs ls hP hS hL)
  | ge => exact lv_icmp_ge hx hb hd ht (fun h => k1 h wt tl t2 mo rm H locs ls hP hS hL) (fun h => k2 h wt tl t2 mo rm H locs ls hP hS hL)
  | gt => exact lv_icmp_gt hx hb hd ht (fun h => k1 h wt tl t2 mo rm H locs ls hP hS hL) (fun h => k2 h wt tl t2 mo rm H locs ls hP hS hL)
  | le => exact lv_icmp_le hx hb hd ht (fun h => k1 h wt tl t2 mo rm H locs ls hP hS hL) (fun h => k2 h wt tl t2 mo rm H locs ls hP hS hL)
theorem sw_at {code : List Ent} {G : GC} {lc : LC} {st : List TV} {μ : MM} {ce sl : Nat} {x : Int32} : ∀ (ts : List Nat) (i : Int), swR code G lc st μ ce sl x i ts → ∀ (k : Nat) (t : Nat), ts[k]? = some t → x.toInt = i + k → G (goTo code t) lc st μ ce sl
  | [], _, _, k, t, h, _ => by simp at h
  | t0 :: ts, i, h, 0, t, ht, hx => by
    rw [List.getElem?_cons_zero] at ht
    cases ht
    exact h.1 (by simpa using hx)
  | t0 :: ts, i, h, k + 1, t, ht, hx => by
    rw [List.getElem?_cons_succ] at ht
    exact sw_at ts (i + 1) h.2 k t ht (by rw [hx]; push_cast; omega)
theorem lu_at {code : List Ent} {G : GC} {lc : LC} {st : List TV} {μ : MM} {ce sl : Nat} {x : Int32} {d : Nat} {pc : Nat} {dflt : Int} (hdf : (pc : Int) + dflt = (d : Int)) : ∀ (ps : List (Int × Int)) (ts : List Nat), luR code G lc st μ ce sl x d ps ts → ps.map (fun o => (pc : Int) + o.2) = ts.map (fun (t : Nat) => (t : Int)) →
    ∃ t : Nat, (pc : Int) + Op.lookupswitch.offset ps dflt x.toInt = (t : Int) ∧ G (goTo code t) lc st μ ce sl
  | [], [], h, _ => ⟨d, hdf, h⟩
  | [], _ :: _, h, _ => h.elim
  | _ :: _, [], h, _ => h.elim
  | q :: ps, t :: ts, h, hm => by
    simp only [List.map_cons, List.cons.injEq] at hm
    by_cases hq : x.toInt = q.1
    · refine ⟨t, ?_, h.1 hq⟩
      rw [← hm.1]
      congr 1
      obtain ⟨a, b⟩ := q
      dsimp only at hq
      simp [Op.lookupswitch.offset, hq]
    · obtain ⟨t', h1, h2⟩ := lu_at hdf ps ts (h.2 hq) hm.2
      refine ⟨t', ?_, h2⟩
      rw [← h1]
      congr 1
      obtain ⟨a, b⟩ := q
      dsimp only at hq
      have : ¬ a = x.toInt := fun z => hq z.symm
      simp [Op.lookupswitch.offset, this]
end SN
end
section
/-! ANY INSTRUCTION, continued: all of them. -/
section SA
variable {p : Program} {l : Launch} {e : Env} {R : Room} {s : State} {m : MethodId} {args : Array Value} {below : List Frame} {meth : Method} {c : Code} {Q : State → Prop}
variable {cc : ByteArray} {g : GPT} {ot : OT} {own : String} {nL : Nat} {ex : Option Nat} {μ0 : MM}
set_option maxHeartbeats 40000000 in
set_option maxRecDepth 100000 in
theorem stp_ok {fr lo : Nat} {ini rz : Bool} {ret : Option FieldType} {code : List Ent} {ct : List (Nat × CI)} {hn : List (Nat × Nat × Nat × Nat)} {Rn : Nat × Nat} {G : GC} {Rt : OC → MM → Prop} {rest : List Ent} {lc : LC} {st : List TV} {μ : MM} {ce sl : Nat} {e0 : Ent}
    (C : CX p s m args c cc nL own g ot) (hini : ini = true → meth.name = "<init>") (hR : Rn = (R.cells, R.slots)) (hfr : fr ≤ R.frames) (hlo : lo ≤ R.locals)
    (hG : ∀ (es : List Ent) (lc : LC) (st : List TV) (μ : MM) (ce sl : Nat), (∃ pre, code = pre ++ es) → G es lc st μ ce sl → WWr p l e R s m args below meth c Q g nL ex μ0 es lc st μ ce sl)
    (hsf : ∃ pre, code = pre ++ rest) (hfol : isThr e0 = false → folE e0 rest) (hThr : hThrQ p l e R s m args below meth c Q g ex μ0 Rt hn) (hCat : hCatQ p l e R s m args below meth c Q hn)
    (hRet : hRetQ p l e R s m args below meth c Q cc ret rz g ex μ0 Rt) (hNew : hNewQ p l e R s m args below meth c Q cc nL own g ex μ0 Rt)
    (hM : ∀ ix ci, lkC ct ix = some ci → MS g ot l ci)
    (hck : chkE own cc ct fr lo ini rz ret e0 = true) (h : stp KT ot code ct hn Rn rz μ0.2.2.2.2 ex G Rt e0 rest lc st μ ce sl) : WW p l e R s m args below meth c Q g nL ex μ0 e0.1 lc st μ ce sl := by
  obtain ⟨pc, i, len, an⟩ := e0
  have C' := C
  obtain ⟨hx, hb, hml, hown, hts, hK⟩ := C
  have jp : ∀ {t : Nat} {lc : LC} {st : List TV} {μ : MM} {ce sl : Nat}, G (goTo code t) lc st μ ce sl → WW p l e R s m args below meth c Q g nL ex μ0 t lc st μ ce sl := fun h => (hG _ _ _ _ _ _ goTo_sfx h).jp
  simp only [chkE, Bool.and_eq_true, decide_eq_true_eq] at hck
  obtain ⟨hd, hck⟩ := hck
  show WW p l e R s m args below meth c Q g nL ex μ0 pc lc st μ ce sl
  cases hthr : isThr (pc, i, len, an) with
  | true =>
    cases i <;> first | (cases hthr; done) | skip
    rename_i ix
    simp only [stp] at h
    split at h
    · rename_i ei j
      split at h
      · simp only [Bool.and_eq_true, Bool.or_eq_true, decide_eq_true_eq] at hck
        obtain ⟨⟨⟨⟨h1, h2⟩, h3⟩, h4⟩, h5⟩ := hck
        subst h4
        split at h5
        · rename_i q hq
          simp only [Bool.and_eq_true, decide_eq_true_eq] at h5
          obtain ⟨⟨⟨⟨⟨⟨d1, d2⟩, d3⟩, d4⟩, d5⟩, d6⟩, d7⟩ := h5
          subst h3
          obtain ⟨hr1, hr2⟩ := h
          subst hR
          intro wt tl ts mo rm H locs ls hP hS hL
          exact hNew ei j q μ H locs ls pc ce sl h1 (by simp; omega) hq d1 hd d2 d3 d4 d5 (by omega) (by omega) ⟨hP, wt, mo⟩ hr1 hS hL.2.1 hr2
        · cases h5
      · exact h.elim
    · cases hthr
    · exact h.elim
  | false =>
    have nx : ∀ {lc : LC} {st : List TV} {μ : MM} {ce sl : Nat}, G rest lc st μ ce sl → WW p l e R s m args below meth c Q g nL ex μ0 (pc + len) lc st μ ce sl := fun h => (hG _ _ _ _ _ _ hsf h).nx (hfol hthr)
    replace hfol := hfol hthr
    cases i with
    | iconst k =>
      have hl : len = 1 := of_decide_eq_true hck
      subst hl
      exact s_push (v := .inl _) trivial (nx h) fun H locs ls k' => lv_iconst hx hb hd rfl k'
    | bipush k =>
      simp only [Bool.and_eq_true, decide_eq_true_eq] at hck
      obtain ⟨hl, h8⟩ := hck
      subst hl
      exact s_push (v := .inl _) trivial (nx h) fun H locs ls k' => lv_bipush hx hb hd h8 k'
    | sipush k =>
      simp only [Bool.and_eq_true, decide_eq_true_eq] at hck
      obtain ⟨hl, h8⟩ := hck
      subst hl
      exact s_push (v := .inl _) trivial (nx h) fun H locs ls k' => lv_sipush hx hb hd h8 k'
    | lconst k =>
      have hl : len = 1 := of_decide_eq_true hck
      subst hl
      exact s_push (v := .inr (.inl _)) trivial (nx h) fun H locs ls k' => lv_lconst hx hb hd rfl k'
    | ldc ix =>
      simp only [stp] at h
      split at h
      · simp only [Bool.and_eq_true, decide_eq_true_eq] at hck
        obtain ⟨hl, h8⟩ := hck
        subst hl
        exact s_push (v := .inl _) trivial (nx h) fun H locs ls k' => lv_ldc hx hb hown (hts _ (isW_in h8)) hd k'
      · exact h.elim
    | ldc_w ix =>
      simp only [stp] at h
      split at h
      · simp only [Bool.and_eq_true, decide_eq_true_eq] at hck
        obtain ⟨hl, h8⟩ := hck
        subst hl
        exact s_push (v := .inl _) trivial (nx h) fun H locs ls k' => lv_ldcw hx hb hown (hts _ (isW_in h8)) hd k'
      · exact h.elim
    | ldc2_w ix =>
      simp only [stp] at h
      split at h
      · simp only [Bool.and_eq_true, decide_eq_true_eq] at hck
        obtain ⟨hl, h8⟩ := hck
        subst hl
        exact s_push (v := .inr (.inl _)) trivial (nx h) fun H locs ls k' => lv_ldc2 hx hb hown (hts _ (isW_in h8)) hd k'
      · exact h.elim
    | iload i =>
      have hl : len = 2 := of_decide_eq_true hck
      subst hl
      simp only [stp] at h
      split at h
      · rename_i x hg
        exact s_load (v := .inl x) hg (nx h) fun H locs ls hv k' => lv_iload hx hb hd hv k'
      · exact h.elim
    | iload_n i =>
      have hl : len = 1 := of_decide_eq_true hck
      subst hl
      simp only [stp] at h
      split at h
      · rename_i x hg
        exact s_load (v := .inl x) hg (nx h) fun H locs ls hv k' => lv_iload_n hx hb hd rfl hv k'
      · exact h.elim
    | lload i =>
      have hl : len = 2 := of_decide_eq_true hck
      subst hl
      simp only [stp] at h
      split at h
      · rename_i x hg
        exact s_load (v := .inr (.inl x)) hg (nx h) fun H locs ls hv k' => lv_lload hx hb hd hv k'
      · exact h.elim
    | lload_n i =>
      have hl : len = 1 := of_decide_eq_true hck
      subst hl
      simp only [stp] at h
      split at h
      · rename_i x hg
        exact s_load (v := .inr (.inl x)) hg (nx h) fun H locs ls hv k' => lv_lload_n hx hb hd rfl hv k'
      · exact h.elim
    | aload i =>
      have hl : len = 2 := of_decide_eq_true hck
      subst hl
      simp only [stp] at h
      split at h
      · rename_i x hg
        exact s_load (v := .inr (.inr x)) hg (nx h) fun H locs ls hv k' => lv_aload hx hb hd hv k'
      · exact h.elim
    | aload_n i =>
      have hl : len = 1 := of_decide_eq_true hck
      subst hl
      simp only [stp] at h
      split at h
      · rename_i x hg
        exact s_load (v := .inr (.inr x)) hg (nx h) fun H locs ls hv k' => lv_aload_n hx hb hd rfl hv k'
      · exact h.elim
    | istore i =>
      have hl : len = 2 := of_decide_eq_true hck
      subst hl
      simp only [stp] at h
      split at h
      · split at h
        · rename_i hi
          exact s_st1 (v := .inl _) rfl hi (nx h) fun H locs ls lv hv hn k' => lv_istore hx hb hd hv hn rfl k'
        · exact h.elim
      · exact h.elim
    | istore_n i =>
      have hl : len = 1 := of_decide_eq_true hck
      subst hl
      simp only [stp] at h
      split at h
      · split at h
        · rename_i hi
          exact s_st1 (v := .inl _) rfl hi (nx h) fun H locs ls lv hv hn k' => lv_istore_n hx hb hd rfl hv hn rfl k'
        · exact h.elim
      · exact h.elim
    | lstore i =>
      have hl : len = 2 := of_decide_eq_true hck
      subst hl
      simp only [stp] at h
      split at h
      · split at h
        · rename_i hi
          exact s_st2 (v := .inr (.inl _)) rfl hi (nx h) fun H locs ls lv hv hn k' => lv_lstore hx hb hd hv hn rfl k'
        · exact h.elim
      · exact h.elim
    | lstore_n i =>
      have hl : len = 1 := of_decide_eq_true hck
      subst hl
      simp only [stp] at h
      split at h
      · split at h
        · rename_i hi
          exact s_st2 (v := .inr (.inl _)) rfl hi (nx h) fun H locs ls lv hv hn k' => lv_lstore_n hx hb hd rfl hv hn rfl k'
        · exact h.elim
      · exact h.elim
    | astore i =>
      have hl : len = 2 := of_decide_eq_true hck
      subst hl
      simp only [stp] at h
      split at h
      · split at h
        · rename_i hi
          exact s_st1 (v := .inr (.inr _)) rfl hi (nx h) fun H locs ls lv hv hn k' => lv_astore hx hb hd hv hn rfl k'
        · exact h.elim
      · exact h.elim
    | astore_n i =>
      have hl : len = 1 := of_decide_eq_true hck
      subst hl
      simp only [stp] at h
      split at h
      · split at h
        · rename_i hi
          exact s_st1 (v := .inr (.inr _)) rfl hi (nx h) fun H locs ls lv hv hn k' => lv_astore_n hx hb hd rfl hv hn rfl k'
        · exact h.elim
      · exact h.elim
    | iinc i k =>
      have hl : len = 3 := of_decide_eq_true hck
      subst hl
      simp only [stp] at h
      split at h
      · rename_i x hg
        split at h
        · rename_i hi
          exact s_iinc hx hb hg hi hd (nx h)
        · exact h.elim
      · exact h.elim
    | iadd =>
      have hl : len = 1 := of_decide_eq_true hck
      subst hl
      simp only [stp] at h
      split at h
      · exact s_bin (v := .inl _) (w1 := .inl _) (w2 := .inl _) trivial (nx h) fun H locs ls k' => lv_iadd hx hb hd k'
      · exact h.elim
    | isub =>
      have hl : len = 1 := of_decide_eq_true hck
      subst hl
      simp only [stp] at h
      split at h
      · exact s_bin (v := .inl _) (w1 := .inl _) (w2 := .inl _) trivial (nx h) fun H locs ls k' => lv_isub hx hb hd k'
      · exact h.elim
    | imul =>
      have hl : len = 1 := of_decide_eq_true hck
      subst hl
      simp only [stp] at h
      split at h
      · exact s_bin (v := .inl _) (w1 := .inl _) (w2 := .inl _) trivial (nx h) fun H locs ls k' => lv_imul hx hb hd k'
      · exact h.elim
    | idiv =>
      have hl : len = 1 := of_decide_eq_true hck
      subst hl
      simp only [stp] at h
      split at h
      · exact s_bin (v := .inl _) (w1 := .inl _) (w2 := .inl _) trivial (nx h.2) fun H locs ls k' => lv_idiv hx hb hd h.1 k'
      · exact h.elim
    | irem =>
      have hl : len = 1 := of_decide_eq_true hck
      subst hl
      simp only [stp] at h
      split at h
      · rename_i y x st'
        exact s_bin (v := .inl _) (w1 := .inl _) (w2 := .inl _) trivial (nx h.2) fun H locs ls k' => lv_irem hx hb hd h.1 (by
          have e1 : x - x / y * y = x % y := irem_eq_mod x y
          rw [e1]
          exact k')
      · exact h.elim
    | ineg =>
      have hl : len = 1 := of_decide_eq_true hck
      subst hl
      simp only [stp] at h
      split at h
      · exact s_un (v := .inl _) (w := .inl _) trivial (nx h) fun H locs ls k' => lv_ineg hx hb hd k'
      · exact h.elim
    | iand =>
      have hl : len = 1 := of_decide_eq_true hck
      subst hl
      simp only [stp] at h
      split at h
      · exact s_bin (v := .inl _) (w1 := .inl _) (w2 := .inl _) trivial (nx h) fun H locs ls k' => lv_iand hx hb hd k'
      · exact h.elim
    | ior =>
      have hl : len = 1 := of_decide_eq_true hck
      subst hl
      simp only [stp] at h
      split at h
      · exact s_bin (v := .inl _) (w1 := .inl _) (w2 := .inl _) trivial (nx h) fun H locs ls k' => lv_ior hx hb hd k'
      · exact h.elim
    | ishl =>
      have hl : len = 1 := of_decide_eq_true hck
      subst hl
      simp only [stp] at h
      split at h
      · exact s_bin (v := .inl _) (w1 := .inl _) (w2 := .inl _) trivial (nx h) fun H locs ls k' => lv_ishl hx hb hd k'
      · exact h.elim
    | ishr =>
      have hl : len = 1 := of_decide_eq_true hck
      subst hl
      simp only [stp] at h
      split at h
      · exact s_bin (v := .inl _) (w1 := .inl _) (w2 := .inl _) trivial (nx h) fun H locs ls k' => lv_ishr hx hb hd k'
      · exact h.elim
    | iushr =>
      have hl : len = 1 := of_decide_eq_true hck
      subst hl
      simp only [stp] at h
      split at h
      · exact s_bin (v := .inl _) (w1 := .inl _) (w2 := .inl _) trivial (nx h) fun H locs ls k' => lv_iushr hx hb hd rfl k'
      · exact h.elim
    | i2l =>
      have hl : len = 1 := of_decide_eq_true hck
      subst hl
      simp only [stp] at h
      split at h
      · exact s_un (v := .inr (.inl _)) (w := .inl _) trivial (nx h) fun H locs ls k' => lv_i2l hx hb hd rfl k'
      · exact h.elim
    | ladd =>
      have hl : len = 1 := of_decide_eq_true hck
      subst hl
      simp only [stp] at h
      split at h
      · exact s_bin (v := .inr (.inl _)) (w1 := .inr (.inl _)) (w2 := .inr (.inl _)) trivial (nx h) fun H locs ls k' => lv_ladd hx hb hd k'
      · exact h.elim
    | lmul =>
      have hl : len = 1 := of_decide_eq_true hck
      subst hl
      simp only [stp] at h
      split at h
      · exact s_bin (v := .inr (.inl _)) (w1 := .inr (.inl _)) (w2 := .inr (.inl _)) trivial (nx h) fun H locs ls k' => lv_lmul hx hb hd k'
      · exact h.elim
    | lcmp =>
      have hl : len = 1 := of_decide_eq_true hck
      subst hl
      simp only [stp] at h
      split at h
      · exact s_bin (v := .inl _) (w1 := .inr (.inl _)) (w2 := .inr (.inl _)) trivial (nx h) fun H locs ls k' => W.lcmp hx hb hd k'
      · exact h.elim
    | dup =>
      have hl : len = 1 := of_decide_eq_true hck
      subst hl
      simp only [stp] at h
      split at h
      · intro wt tl ts mo rm H locs ls hP hS hL
        obtain ⟨t1, t2⟩ := tOKs_cons.mp ts
        exact lv_dup hx hb hd rfl (nx h wt tl (tOKs_cons.mpr ⟨t1, tOKs_cons.mpr ⟨t1, t2⟩⟩) mo rm H locs ls hP hS hL)
      · intro wt tl ts mo rm H locs ls hP hS hL
        obtain ⟨t1, t2⟩ := tOKs_cons.mp ts
        exact lv_dup hx hb hd rfl (nx h wt tl (tOKs_cons.mpr ⟨t1, tOKs_cons.mpr ⟨t1, t2⟩⟩) mo rm H locs ls hP hS hL)
      · exact h.elim
    | dup2 =>
      have hl : len = 1 := of_decide_eq_true hck
      subst hl
      simp only [stp] at h
      split at h
      · intro wt tl ts mo rm H locs ls hP hS hL
        obtain ⟨t1, t2⟩ := tOKs_cons.mp ts
        obtain ⟨t2, t3⟩ := tOKs_cons.mp t2
        exact lv_dup2_11 hx hb hd rfl rfl (nx h wt tl (tOKs_cons.mpr ⟨t1, tOKs_cons.mpr ⟨t2, tOKs_cons.mpr ⟨t1, tOKs_cons.mpr ⟨t2, t3⟩⟩⟩⟩) mo rm H locs ls hP hS hL)
      · exact h.elim
    | goto off =>
      simp only [stp] at h
      split at h
      · simp only [Bool.and_eq_true, decide_eq_true_eq] at hck
        intro wt tl ts mo rm H locs ls hP hS hL
        obtain ⟨hl, h8⟩ := hck
        subst hl
        exact lv_goto hx hb hd h8 (jp h wt tl ts mo rm H locs ls hP hS hL)
      · exact h.elim
    | ifCond cnd off =>
      simp only [stp] at h
      split at h
      · simp only [Bool.and_eq_true, decide_eq_true_eq] at hck
        obtain ⟨hl, h8⟩ := hck
        subst hl
        exact s_if hx hb hd h8 (fun q => jp (h.1 q)) (fun q => nx (h.2 q))
      · exact h.elim
    | if_icmp cnd off =>
      simp only [stp] at h
      split at h
      · simp only [Bool.and_eq_true, decide_eq_true_eq] at hck
        obtain ⟨hl, h8⟩ := hck
        subst hl
        exact s_icmp hx hb hd h8 (fun q => jp (h.1 q)) (fun q => nx (h.2 q))
      · exact h.elim
    | tableswitch d lo' hi offs =>
      simp only [stp] at h
      split at h
      · rename_i x st' t0 ts
        simp only [Bool.and_eq_true, decide_eq_true_eq] at hck
        obtain ⟨⟨h1, h2⟩, h3⟩ := hck
        intro wt tl tss mo rm H locs ls hP hS hL
        have t2 := (tOKs_cons.mp tss).2
        by_cases ho : x.toInt < lo' ∨ hi < x.toInt
        · exact lv_tableOut hx hb hd ho h1 (jp (h.1 ho) wt tl t2 mo rm H locs ls hP hS hL)
        · have ho1 : ¬ x.toInt < lo' := fun z => ho (Or.inl z)
          have ho2 : ¬ hi < x.toInt := fun z => ho (Or.inr z)
          have hk : (x.toInt - lo').toNat < ts.length := by omega
          obtain ⟨t, ht⟩ : ∃ t, ts[(x.toInt - lo').toNat]? = some t := ⟨_, List.getElem?_eq_getElem hk⟩
          have hoff : (offs.toList.map (fun o => (pc : Int) + o))[(x.toInt - lo').toNat]? = some (t : Int) := by rw [h2, List.getElem?_map, ht]; rfl
          rw [List.getElem?_map] at hoff
          cases hq : offs.toList[(x.toInt - lo').toNat]? with
          | none => rw [hq] at hoff; cases hoff
          | some o =>
            rw [hq] at hoff
            have ho3 : (pc : Int) + o = (t : Int) := Option.some.inj hoff
            exact lv_tableIn hx hb hd ho1 ho2 (off := o) (by rw [← Array.getElem?_toList]; exact hq) ho3 (jp (sw_at ts lo' h.2 _ t ht (by omega)) wt tl t2 mo rm H locs ls hP hS hL)
      · exact h.elim
    | lookupswitch d ps =>
      simp only [stp] at h
      split at h
      · rename_i x st' t0 ts
        simp only [Bool.and_eq_true, decide_eq_true_eq] at hck
        obtain ⟨⟨h1, h2⟩, h3⟩ := hck
        obtain ⟨t, h4, h5⟩ := lu_at h1 ps.toList ts h h2
        intro wt tl tss mo rm H locs ls hP hS hL
        have t2 := (tOKs_cons.mp tss).2
        exact lv_lookup hx hb hd h3 rfl h4 (jp h5 wt tl t2 mo rm H locs ls hP hS hL)
      · exact h.elim
    | getstatic ix =>
      simp only [stp] at h
      split at h
      · rename_i k t i
        simp only [Bool.and_eq_true, Bool.or_eq_true, decide_eq_true_eq] at hck
        obtain ⟨hl, hck⟩ := hck
        subst hl
        have kk := nx (h (g.2.2.2 k))
        intro wt tl ts mo rm H locs ls hP hS hL
        have tk : tOK g μ (.inr (.inr (k, g.2.2.2 k))) := ⟨fun q => by omega, fun _ _ => rfl⟩
        have k2 := kk wt tl (tOKs_cons.mpr ⟨tk, ts⟩) mo rm H locs ls hP hS hL
        obtain ⟨-, -, -, -, -, -, -, z1, z2, -⟩ := hK
        rcases hck with ⟨rfl, hw⟩ | ⟨rfl, hw⟩
        · exact va_gets hx hb z1 hS hown (hts _ (isW_in hw)) (fun _ h => h) hd k2
        · exact va_gets hx hb z2 hS hown (hts _ (isW_in hw)) (fun _ h => h) hd k2
      · exact h.elim
    | getfield ix =>
      simp only [stp] at h
      split at h
      · rename_i k a st' ci f t i
        simp only [Bool.and_eq_true, decide_eq_true_eq] at hck
        obtain ⟨hl, hck⟩ := hck
        subst hl
        split at h
        · rename_i o hf
          exact s_getf C' hd hck hf (v := .inl _) rfl (fld90 hf) (fun _ _ => trivial) (nx h)
        · rename_i o hf
          exact s_getf C' hd hck hf (v := .inr (.inl _)) rfl (fld90 hf) (fun _ _ => trivial) (nx h)
        · rename_i j o hf
          refine s_getf C' hd hck hf (v := .inr (.inr _)) rfl (fld90 hf) (fun wt hk => ?_) (nx h)
          obtain ⟨fs, h1, h2⟩ := fldK_spec hf
          have := wt a
          rw [hk, h1] at this
          obtain ⟨h3, h4⟩ := KT_rf h1 h2
          exact ⟨fun _ => this f j o h2, fun h5 => by omega⟩
        · exact h.elim
      · exact h.elim
    | putfield ix =>
      simp only [stp] at h
      split at h
      · rename_i x k a st' ci f t i
        simp only [Bool.and_eq_true, decide_eq_true_eq] at hck
        obtain ⟨⟨hl, hck⟩, hfin⟩ := hck
        subst hl
        split at h
        · rename_i hf
          refine s_putf C' hd hck hfin hf (v := .inl x) (ty := .int) (μ' := (up2 μ.1 a f x, μ.2)) (fun _ => ⟨rfl, rfl⟩) (fun ty' h' => of_decide_eq_true h') rfl rfl (fun b hb' => ⟨up2_ne hb', rfl, rfl⟩) (by show Value.int (up2 μ.1 a f x a f) = Value.int x; rw [up2_eq]) (fun j q' hj => ?_) (nx h)
          unfold fvl
          dsimp only
          rw [up2_nj hj]
        · rename_i hf
          refine s_putf C' hd hck hfin hf (v := .inl x) (ty := .boolean) (μ' := (up2 μ.1 a f x, μ.2)) (fun _ => ⟨(z_nar h.1).2.1, (z_nar h.1).2.2⟩) (fun ty' h' => of_decide_eq_true h') rfl rfl (fun b hb' => ⟨up2_ne hb', rfl, rfl⟩) (by show Value.int (up2 μ.1 a f x a f) = Value.int x; rw [up2_eq]) (fun j q' hj => ?_) (nx h.2)
          unfold fvl
          dsimp only
          rw [up2_nj hj]
        · exact h.elim
      · rename_i x k a st' ci f t i
        simp only [Bool.and_eq_true, decide_eq_true_eq] at hck
        obtain ⟨⟨hl, hck⟩, hfin⟩ := hck
        subst hl
        split at h
        · rename_i o hf
          refine s_putf C' hd hck hfin hf (v := .inr (.inl x)) (ty := .long) (μ' := (μ.1, μ.2.1, up2 μ.2.2.1 a f x, μ.2.2.2)) (fun _ => ⟨rfl, rfl⟩) (fun ty' h' => of_decide_eq_true h') rfl rfl (fun b hb' => ⟨rfl, rfl, up2_ne hb'⟩) (by show Value.long (up2 μ.2.2.1 a f x a f) = Value.long x; rw [up2_eq]) (fun j q' hj => ?_) (nx h)
          unfold fvl
          dsimp only
          rw [up2_nj hj]
        · exact h.elim
      · rename_i kv b k a st' ci f t i k1 k0
        simp only [Bool.and_eq_true, decide_eq_true_eq] at hck
        obtain ⟨⟨⟨⟨hl, hck⟩, hfin⟩, hinb⟩, hset⟩ := hck
        subst hl
        split at h
        · rename_i o0 j o k' a' hf hf1 hlc
          split at h
          · rename_i hc
            obtain ⟨hk1', hk2', hk3', hnk⟩ := hc
            subst hk1'
            subst hk2'
            subst hk3'
            obtain ⟨rfl, rfl, hxo, h⟩ := h
            have kk := nx h
            intro wt tl ts mo rm H locs ls hP hS hL
            obtain ⟨t1, t2⟩ := tOKs_cons.mp ts
            obtain ⟨t2, -⟩ := tOKs_cons.mp t2
            obtain ⟨e1, e2⟩ := t2.1 (fld90 hf)
            obtain ⟨fs0, g0, g1, g2, g3⟩ := setK_sp hset
            obtain ⟨fs1, g4, g5⟩ := fldK_spec hf1
            have hfs1 : fs1 = fs0.set f (kv + 3, o) := by
              have h6 : fs1 = fs0.set f ((match KT k1 with | .inl (_, fs1) => fs1 | .inr _ => []).getD f (0, 0)) := congrArg Prod.snd (Sum.inl.inj (g4.symm.trans g1))
              rw [g4] at h6
              dsimp only at h6
              rw [List.getD_eq_getElem?_getD, g5] at h6
              exact h6
            obtain ⟨r, hr, hn', hw⟩ := chkF_sp hck
            obtain ⟨r', hr', hlen, hok⟩ := KT_inl g4
            cases Option.some.inj (hr'.symm.trans hr)
            obtain ⟨ty', hp', hok2⟩ := hok f _ g5
            obtain ⟨j1, j2⟩ := KT_rf g4 g5
            obtain ⟨b1, b2⟩ := t1.1 (by omega)
            obtain ⟨f1, f2⟩ := finF_sp hfin hr
            have hkx : μ.2.2.2.1 (a' + o) = kv := b1
            have hlt := hP.lt (b := a') (by rw [e1]; exact e2)
            have key : ∀ b, b ≠ a' → up1 μ.2.2.2.1 a' k1 b = μ.2.2.2.1 b := fun b hb' => up1_ne hb'
            have tyr : narrow ty' (Value.ref (a' + o)) = Value.ref (a' + o) ∧ fits ty' (Value.ref (a' + o)) = true := by
              cases ty' <;> first | exact ⟨rfl, rfl⟩ | exact absurd hok2 Bool.false_ne_true
            refine r_putV hx hb hown hts hK hP hS e1 e2 hf hr hn' hw (Or.inr ⟨f1, hini hinb, f2 rfl⟩) hp' tyr.1 tyr.2 hd (μ' := (μ.1, μ.2.1, μ.2.2.1, up1 μ.2.2.2.1 a' k1, μ.2.2.2.2)) (k1 := k1) (fs1 := fs1) up1_eq g4 rfl (fun b hb' => ⟨key b hb', rfl, rfl, rfl⟩) (fun fs' hfs' j' hj' => ?_) fun H1 locs1 hP1 hS1 => ?_
            · have hfe : fs' = fs0 := congrArg Prod.snd (Sum.inl.inj (hfs'.symm.trans g0))
              subst hfe
              rw [vpf, hfs1]
              by_cases hjf : j' = f
              · subst hjf
                rw [← hfs1, g5]
                show updV _ j' (Value.ref (a' + o)) j' = Value.ref (a' + o)
                simp [updV]
              · rw [List.getElem?_set_ne (Ne.symm hjf)]
                show (if j' = f then _ else vp_V (fvs μ a' 0 fs') j') = _
                rw [if_neg hjf, vpf]
                rfl
            · have wt' := wt.put e1 g3 g0 (by rw [← hfs1]; exact g4) hkx
              refine kk wt' (fun i v hi => ?_) tOKs_nil (mo.tr (Nat.le_refl _) fun b hb' hne => key b fun z => ?_) rm H1 locs1 ls hP1 hS1 ⟨by rw [List.length_set]; exact hL.1, hL.2.1, hL.2.2.1, fun i v hi => ?_⟩
              · by_cases h00 : i = 0
                · subst h00
                  rw [List.getElem?_set] at hi
                  simp only [if_true] at hi
                  split at hi
                  · cases hi
                    exact ⟨fun _ => ⟨up1_eq, by omega⟩, fun h9 _ => by have := fld90 hf1; omega⟩
                  · cases hi
                · rw [List.getElem?_set_ne (Ne.symm h00)] at hi
                  refine (tl i v hi).other e1 (nkL_spec hnk (i - 1) v ?_) (fun b _ hb' => key b hb')
                  rw [← List.drop_one, List.getElem?_drop, show 1 + (i - 1) = i by omega]
                  exact hi
              · subst z
                rcases hxo with h7 | h7
                · exact hne h7.symm
                · omega
              · by_cases h00 : i = 0
                · subst h00
                  rw [List.getElem?_set] at hi
                  simp only [if_true] at hi
                  split at hi
                  · cases hi
                    have h44 := hL.2.2.2 0 _ (getL_at hlc)
                    exact h44
                  · cases hi
                · rw [List.getElem?_set_ne (Ne.symm h00)] at hi
                  exact hL.2.2.2 i v hi
          · exact h.elim
        · exact h.elim
      · exact h.elim
    | arraylength =>
      have hl : len = 1 := of_decide_eq_true hck
      subst hl
      simp only [stp] at h
      split at h
      · rename_i a st'
        have kk := nx h
        intro wt tl ts mo rm H locs ls hP hS hL
        obtain ⟨t1, t2⟩ := tOKs_cons.mp ts
        have ha : a = g.2.2.2 90 := t1.2 (Nat.le_refl _) (by omega)
        subst ha
        exact va_tlen hx hb (hK.2.1 90 (Nat.le_refl _) (by omega)).2 hS rfl hd (kk wt tl (tOKs_cons.mpr ⟨trivial, t2⟩) mo rm H locs ls hP hS hL)
      · exact h.elim
    | iaload =>
      have hl : len = 1 := of_decide_eq_true hck
      subst hl
      have old : ∀ (k a : Nat) (i : Int32) (st' : List TV), 90 ≤ k → k < 93 → (∃ j : Nat, i = nI j ∧ j < ot.1 k ∧ G rest lc (.inl (ot.2 k j) :: st') μ ce sl) → WW p l e R s m args below meth c Q g nL ex μ0 pc lc (.inl i :: .inr (.inr (k, a)) :: st') μ ce sl := by
        intro k a i st' h1 h2 h3
        obtain ⟨j, hi, hj, h3⟩ := h3
        have kk := nx h3
        intro wt tl ts mo rm H locs ls hP hS hL
        obtain ⟨-, t1⟩ := tOKs_cons.mp ts
        obtain ⟨t1, t2⟩ := tOKs_cons.mp t1
        have ha : a = g.2.2.2 k := t1.2 h1 h2
        subst ha
        obtain ⟨o1, o2⟩ := hK.2.1 k h1 h2
        obtain ⟨i1, i2⟩ := va_in_of' hi hj o1
        exact va_ti hx hb o2 hS i1 (v := .int (ot.2 k j)) (by show Value.int (ot.2 k _) = Value.int (ot.2 k j); rw [i2]) hd (kk wt tl (tOKs_cons.mpr ⟨trivial, t2⟩) mo rm H locs ls hP hS hL)
      simp only [stp] at h
      split at h
      · exact old _ _ _ _ (by omega) (by omega) h
      · exact old _ _ _ _ (by omega) (by omega) h
      · exact old _ _ _ _ (by omega) (by omega) h
      · split at h
        · rename_i i k a st' hk1 hk2 hk3 o n q hf
          obtain ⟨j, hi, hj, h⟩ := h
          have kk := nx h
          intro wt tl ts mo rm H locs ls hP hS hL
          obtain ⟨-, t1⟩ := tOKs_cons.mp ts
          obtain ⟨t1, t2⟩ := tOKs_cons.mp t1
          obtain ⟨e1, e2⟩ := t1.1 (arr90 hf (by dsimp only; omega))
          exact r_iald hx hb hK hP e1 e2 hf hi hj hd (kk wt tl (tOKs_cons.mpr ⟨trivial, t2⟩) mo rm H locs ls hP hS hL)
        · exact h.elim
      · exact h.elim
    | baload =>
      have hl : len = 1 := of_decide_eq_true hck
      subst hl
      simp only [stp] at h
      split at h
      · split at h
        · rename_i i k a st' o n q hf
          obtain ⟨j, hi, hj, h⟩ := h
          have kk := nx h
          intro wt tl ts mo rm H locs ls hP hS hL
          obtain ⟨-, t1⟩ := tOKs_cons.mp ts
          obtain ⟨t1, t2⟩ := tOKs_cons.mp t1
          obtain ⟨e1, e2⟩ := t1.1 (arr90 hf (by dsimp only; omega))
          exact r_zald hx hb hK hP e1 e2 hf hi hj hd (kk wt tl (tOKs_cons.mpr ⟨trivial, t2⟩) mo rm H locs ls hP hS hL)
        · exact h.elim
      · exact h.elim
    | laload =>
      have hl : len = 1 := of_decide_eq_true hck
      subst hl
      simp only [stp] at h
      split at h
      · split at h
        · rename_i i k a st' o n q hf
          obtain ⟨j, hi, hj, h⟩ := h
          have kk := nx h
          intro wt tl ts mo rm H locs ls hP hS hL
          obtain ⟨-, t1⟩ := tOKs_cons.mp ts
          obtain ⟨t1, t2⟩ := tOKs_cons.mp t1
          obtain ⟨e1, e2⟩ := t1.1 (arr90 hf (by dsimp only; omega))
          exact r_lald hx hb hK hP e1 e2 hf hi hj hd (kk wt tl (tOKs_cons.mpr ⟨trivial, t2⟩) mo rm H locs ls hP hS hL)
        · exact h.elim
      · exact h.elim
    | aaload =>
      have hl : len = 1 := of_decide_eq_true hck
      subst hl
      have go : ∀ (k a n t ek o d : Nat) (i : Int32) (j : Nat) (st' : List TV) (z : Nat), arrK KT k = some (t + 3, n, ek, o, d) → i = nI j → j < n → j < μ.2.1 a n → z = (if d = 0 then μ.2.1 a j else a + o + d * j) → G rest lc (.inr (.inr (ek, z)) :: st') μ ce sl → WW p l e R s m args below meth c Q g nL ex μ0 pc lc (.inl i :: .inr (.inr (k, a)) :: st') μ ce sl := by
        intro k a n t ek o d i j st' z hf hi hj hfl hz h3
        have kk := nx h3
        intro wt tl ts mo rm H locs ls hP hS hL
        obtain ⟨-, t1⟩ := tOKs_cons.mp ts
        obtain ⟨t1, t2⟩ := tOKs_cons.mp t1
        obtain ⟨e1, e2⟩ := t1.1 (arr90 hf (by dsimp only; omega))
        have hKk := arrK_spec hf
        obtain ⟨r1, r2⟩ := KT_re hKk (by omega)
        have hw := wt a
        rw [e1, hKk] at hw
        obtain ⟨-, -, w3⟩ := hw (by omega)
        have w4 := w3 j hfl
        rw [← hz] at w4
        refine r_aald hx hb hK hP e1 e2 hf hi hj hfl hd ?_
        rw [← hz]
        exact kk wt tl (tOKs_cons.mpr ⟨⟨fun _ => ⟨w4, by omega⟩, fun h9 _ => by omega⟩, t2⟩) mo rm H locs ls hP hS hL
      simp only [stp] at h
      split at h
      · split at h
        · rename_i i k a st' o1 t n ek o hf
          obtain ⟨j, hi, hj, hfl, h⟩ := h
          exact go k a n t ek o 0 i j st' _ hf hi hj hfl rfl h
        · rename_i i k a st' o1 t n ek o d hf
          obtain ⟨j, hi, hj, hfl, h⟩ := h
          exact go k a n t ek o (d + 1) i j st' _ hf hi hj hfl rfl h
        · exact h.elim
      · exact h.elim
    | iastore =>
      have hl : len = 1 := of_decide_eq_true hck
      subst hl
      simp only [stp] at h
      split at h
      · split at h
        · rename_i x i k a st' o n q hf
          obtain ⟨j, hi, hj, h⟩ := h
          have kk := nx h
          intro wt tl ts mo rm H locs ls hP hS hL
          obtain ⟨-, t1⟩ := tOKs_cons.mp ts
          obtain ⟨-, t1⟩ := tOKs_cons.mp t1
          obtain ⟨t1, t2⟩ := tOKs_cons.mp t1
          obtain ⟨e1, e2⟩ := t1.1 (arr90 hf (by dsimp only; omega))
          exact r_iast hx hb hK hP hS e1 e2 hf hi hj hd fun H1 locs1 hP1 hS1 => s_keep kk rfl (wt_i wt) tl t2 mo rm hP1 hS1 hL
        · exact h.elim
      · exact h.elim
    | bastore =>
      have hl : len = 1 := of_decide_eq_true hck
      subst hl
      simp only [stp] at h
      split at h
      · split at h
        · rename_i x i k a st' o n q hf
          obtain ⟨j, hi, hj, hz, h⟩ := h
          have kk := nx h
          intro wt tl ts mo rm H locs ls hP hS hL
          obtain ⟨-, t1⟩ := tOKs_cons.mp ts
          obtain ⟨-, t1⟩ := tOKs_cons.mp t1
          obtain ⟨t1, t2⟩ := tOKs_cons.mp t1
          obtain ⟨e1, e2⟩ := t1.1 (arr90 hf (by dsimp only; omega))
          exact r_zast hx hb hK hP hS e1 e2 hf hi hj hz hd fun H1 locs1 hP1 hS1 => s_keep kk rfl (wt_i wt) tl t2 mo rm hP1 hS1 hL
        · exact h.elim
      · exact h.elim
    | lastore =>
      have hl : len = 1 := of_decide_eq_true hck
      subst hl
      simp only [stp] at h
      split at h
      · split at h
        · rename_i x i k a st' o n q hf
          obtain ⟨j, hi, hj, h⟩ := h
          have kk := nx h
          intro wt tl ts mo rm H locs ls hP hS hL
          obtain ⟨-, t1⟩ := tOKs_cons.mp ts
          obtain ⟨-, t1⟩ := tOKs_cons.mp t1
          obtain ⟨t1, t2⟩ := tOKs_cons.mp t1
          obtain ⟨e1, e2⟩ := t1.1 (arr90 hf (by dsimp only; omega))
          exact r_last hx hb hK hP hS e1 e2 hf hi hj hd fun H1 locs1 hP1 hS1 => s_keep kk rfl (wt_l wt) tl t2 mo rm hP1 hS1 hL
        · exact h.elim
      · exact h.elim
    | aastore =>
      have hl : len = 1 := of_decide_eq_true hck
      subst hl
      have go : ∀ (k a n t o d b : Nat) (i : Int32) (j kv : Nat) (st' : List TV) (r2 : Nat → Nat → Nat), arrK KT k = some (t + 3, n, kv, o, d) → i = nI j → j < n → (∀ q, q ≠ a → r2 q = μ.2.1 q) → (∀ q, q < n → va_up (rfs μ a n o d) j (some b) q = rfs (μ.1, r2, μ.2.2) a n o d q) →
          (WT μ → μ.2.2.2.1 a = k → μ.2.2.2.1 b = kv → r2 a n ≤ n ∧ ∀ j, j < r2 a n → μ.2.2.2.1 (if d = 0 then r2 a j else a + o + d * j) = kv) → G rest lc st' (μ.1, r2, μ.2.2) ce sl → WW p l e R s m args below meth c Q g nL ex μ0 pc lc (.inr (.inr (kv, b)) :: .inl i :: .inr (.inr (k, a)) :: st') μ ce sl := by
        intro k a n t o d b i j kv st' r2 hf hi hj hr2 hrow hwt h3
        have kk := nx h3
        intro wt tl ts mo rm H locs ls hP hS hL
        obtain ⟨tb, t1⟩ := tOKs_cons.mp ts
        obtain ⟨-, t1⟩ := tOKs_cons.mp t1
        obtain ⟨t1, t2⟩ := tOKs_cons.mp t1
        obtain ⟨e1, e2⟩ := t1.1 (arr90 hf (by dsimp only; omega))
        have hKk := arrK_spec hf
        obtain ⟨q1, q2⟩ := KT_re hKk (by omega)
        obtain ⟨b1, b2⟩ := tb.1 (by omega)
        exact r_aast hx hb hK hP hS e1 e2 hf hi hj b1 b2 hr2 hrow hd fun H1 locs1 hP1 hS1 => s_keep kk rfl (wt.row e1 hKk hr2 (hwt wt e1 b1)) tl t2 mo rm hP1 hS1 hL
      simp only [stp] at h
      split at h
      · split at h
        · rename_i kv b i k a st' o1 t n ek o hf
          split at h
          · rename_i hkv
            subst hkv
            have hKk := arrK_spec hf
            obtain ⟨j, hi, hj, h | h⟩ := h
            · obtain ⟨hfl, h⟩ := h
              refine go k a n t o 0 b i j kv st' _ hf hi hj (fun q hq => up2_ne hq) (fun q hq => ?_) (fun wt hk hb' => ?_) h
              · have hn1 : up2 μ.2.1 a j b a n = μ.2.1 a n := up2_nj (by omega)
                show va_up (rfs μ a n o 0) j (some b) q = (if q < up2 μ.2.1 a j b a n then some (up2 μ.2.1 a j b a q) else none)
                rw [hn1]
                by_cases e : q = j
                · subst e
                  rw [va_up_self, if_pos hfl, up2_eq]
                · rw [va_up_ne _ _ e, up2_nj e]
                  rfl
              · have hn1 : up2 μ.2.1 a j b a n = μ.2.1 a n := up2_nj (by omega)
                have hw := wt a
                rw [hk, hKk] at hw
                obtain ⟨w1, -, w3⟩ := hw (by omega)
                rw [hn1]
                refine ⟨w1, fun j' hj' => ?_⟩
                show μ.2.2.2.1 (up2 μ.2.1 a j b a j') = kv
                by_cases e : j' = j
                · subst e
                  rw [up2_eq]
                  exact hb'
                · rw [up2_nj e]
                  exact w3 j' hj'
            · obtain ⟨hfl, h⟩ := h
              refine go k a n t o 0 b i j kv st' _ hf hi hj (fun q hq => by rw [up2_ne hq, up2_ne hq]) (fun q hq => ?_) (fun wt hk hb' => ?_) h
              · show va_up (rfs μ a n o 0) j (some b) q = (if q < up2 (up2 μ.2.1 a j b) a n (j + 1) a n then some (up2 (up2 μ.2.1 a j b) a n (j + 1) a q) else none)
                rw [up2_eq, up2_nj (by omega)]
                by_cases e : q = j
                · subst e
                  rw [va_up_self, if_pos (by omega), up2_eq]
                · rw [va_up_ne _ _ e, up2_nj e]
                  show (if q < μ.2.1 a n then some (μ.2.1 a q) else none) = _
                  by_cases e2 : q < μ.2.1 a n
                  · rw [if_pos e2, if_pos (by omega)]
                  · rw [if_neg e2, if_neg (by omega)]
              · have hw := wt a
                rw [hk, hKk] at hw
                obtain ⟨w1, -, w3⟩ := hw (by omega)
                rw [up2_eq]
                refine ⟨by omega, fun j' hj' => ?_⟩
                show μ.2.2.2.1 (up2 (up2 μ.2.1 a j b) a n (j + 1) a j') = kv
                rw [up2_nj (by omega)]
                by_cases e : j' = j
                · subst e
                  rw [up2_eq]
                  exact hb'
                · rw [up2_nj e]
                  exact w3 j' (by omega)
          · exact h.elim
        · rename_i kv b i k a st' o1 t n ek o d hf
          split at h
          · rename_i hkv
            subst hkv
            have hKk := arrK_spec hf
            obtain ⟨j, hi, hj, hfl, hbj, h⟩ := h
            refine go k a n t o (d + 1) b i j kv st' _ hf hi hj (fun q hq => up2_ne hq) (fun q hq => ?_) (fun wt hk hb' => ?_) h
            · show va_up (rfs μ a n o (d + 1)) j (some b) q = (if q < up2 μ.2.1 a n (j + 1) a n then some (a + o + (d + 1) * q) else none)
              rw [up2_eq]
              by_cases e : q = j
              · subst e
                rw [va_up_self, if_pos (by omega), hbj]
              · rw [va_up_ne _ _ e]
                show (if q < μ.2.1 a n then some (a + o + (d + 1) * q) else none) = _
                by_cases e2 : q < μ.2.1 a n
                · rw [if_pos e2, if_pos (by omega)]
                · rw [if_neg e2, if_neg (by omega)]
            · have hw := wt a
              rw [hk, hKk] at hw
              obtain ⟨w1, -, w3⟩ := hw (by omega)
              rw [up2_eq]
              refine ⟨by omega, fun j' hj' => ?_⟩
              show μ.2.2.2.1 (a + o + (d + 1) * j') = kv
              by_cases e : j' = j
              · subst e
                rw [← hbj]
                exact hb'
              · exact w3 j' (by omega)
          · exact h.elim
        · exact h.elim
      · exact h.elim
    | new ix =>
      simp only [stp] at h
      split at h
      · cases hthr
      · rename_i k n t1 i1 t2 i2 t3 i3
        simp only [Bool.and_eq_true, decide_eq_true_eq] at hck
        obtain ⟨hl, hck⟩ := hck
        subst hl
        unfold rawK at hck
        split at hck
        · rename_i ci fs hKk
          split at hck
          · rename_i r hr
            simp only [Bool.and_eq_true, decide_eq_true_eq] at hck
            obtain ⟨⟨⟨⟨⟨a1, a2⟩, a3⟩, a4⟩, a5⟩, a6⟩ := hck
            obtain ⟨hr1, h⟩ := h
            have kk := nx h
            subst hR
            have hraw : ∀ q ∈ fs, q.1 < 3 := fun q hq => of_decide_eq_true (List.all_eq_true.mp a2 q hq)
            intro wt tl ts mo rm H locs ls hP hS hL
            refine r_new hx hb hown hts hK hP hS hKk hraw hr a1 (isW_in a3) (isW_in a4) (isW_in a5) hd hr1.1 hr1.2 fun H1 hP1 hS1 => ?_
            have hlt := KT_lt hKk
            refine s_new a6 (by omega) kk (wt.new (k0_at hP) (fun _ _ => rfl) (fun ci' fs' h' => ?_) (fun t n ek o d h' => ?_)) tl ts mo hr1 hP hP1 hS1 hL
            · have hfe : fs' = fs := congrArg Prod.snd (Sum.inl.inj (h'.symm.trans hKk))
              subst hfe
              exact hraw
            · rw [hKk] at h'
              cases h'
          · cases hck
        · cases hck
      · exact h.elim
    | newarray at' =>
      simp only [stp] at h
      split at h
      · rename_i x st' k n t i
        simp only [Bool.and_eq_true, decide_eq_true_eq] at hck
        obtain ⟨hl, hck⟩ := hck
        subst hl
        split at hck
        · rename_i ty n' q hKk
          simp only [Bool.and_eq_true, decide_eq_true_eq] at hck
          obtain ⟨⟨⟨⟨a1, a2⟩, a3⟩, a4⟩, a5⟩ := hck
          subst a1
          obtain ⟨hxn, hr1, h⟩ := h
          have kk := nx h
          subst hR
          intro wt tl ts mo rm H locs ls hP hS hL
          have t2 := (tOKs_cons.mp ts).2
          obtain ⟨ek, o, d⟩ := q
          refine r_newa hx hb hts hK hP hS hKk a2 a3 hxn (isW_in a4) hd hr1.1 hr1.2 fun H1 hP1 hS1 => ?_
          refine s_new a5.1 a5.2 kk (wt.new (k0_at hP) (fun _ _ => rfl) (fun ci' fs' h' => ?_) (fun t n ek o d h' h3 => ?_)) tl t2 mo hr1 hP hP1 hS1 hL
          · rw [hKk] at h'
            cases h'
          · have := congrArg Prod.fst (Sum.inr.inj (h'.symm.trans hKk))
            dsimp only at this
            omega
        · cases hck
      · exact h.elim
    | anewarray ix =>
      simp only [stp] at h
      split at h
      · rename_i x st' k n t i u1 u2
        simp only [Bool.and_eq_true, decide_eq_true_eq] at hck
        obtain ⟨hl, hck⟩ := hck
        subst hl
        split at hck
        · rename_i ty n' q hKk
          simp only [Bool.and_eq_true, decide_eq_true_eq] at hck
          obtain ⟨⟨⟨a1, a2⟩, a3⟩, a4⟩ := hck
          subst a1
          split at a4
          · rename_i r hr
            obtain ⟨hxn, hr1, h⟩ := h
            have kk := nx h
            subst hR
            obtain ⟨ty', rfl⟩ : ∃ t', ty = t' + 3 := ⟨ty - 3, by omega⟩
            intro wt tl ts mo rm H locs ls hP hS hL
            have t2 := (tOKs_cons.mp ts).2
            obtain ⟨ek, o, d⟩ := q
            have hk90 : k < 90 := by
              rcases Nat.lt_or_ge k 90 with h2 | h2
              · exact h2
              · exfalso
                have h1 := hKk
                unfold KT at h1
                rw [List.getD_eq_getElem?_getD, List.getElem?_eq_none (by rw [kd_len]; omega)] at h1
                cases h1
            refine r_newq hx hb hown hts hK hP hS hKk hr hxn (isW_in a4) hd hr1.1 hr1.2 fun H1 hP1 hS1 => ?_
            refine s_new a3 hk90 kk (wt.new (k0_at hP) (fun b hb' => up2_ne hb') (fun ci' fs' h' => ?_) (fun t n2 ek o d h' h3 => ?_)) tl t2 mo hr1 hP hP1 hS1 hL
            · rw [hKk] at h'
              cases h'
            · have hq := Sum.inr.inj (h'.symm.trans hKk)
              have hn2 : n2 = n' := congrArg (fun z => z.2.1) hq
              subst hn2
              exact up2_eq
          · cases a4
        · cases hck
      · exact h.elim
    | invokevirtual ix =>
      simp only [stp] at h
      split at h
      · rename_i ci hl
        simp only [Bool.and_eq_true, decide_eq_true_eq] at hck
        obtain ⟨⟨hlen, hck⟩, hmode⟩ := hck
        subst hlen
        rw [hl] at hmode
        exact s_call C' hR hfr hlo hG hsf hfol hThr hCat hck hl (hM ix ci hl) (Or.inr ⟨hd, of_decide_eq_true hmode⟩) h
      · exact h.elim
    | invokestatic ix =>
      have hck' : (∃ a1 b1 a2 b2 a3 b3 a4 b4, an = [0, a1, b1, a2, b2, a3, b3, a4, b4] ∧ len = 3 ∧ Jvm.Cond.methodLink own ix arraycopyName ∈ GW ∧ Jvm.Cond.native arraycopyName ∈ GW ∧ Jvm.Cond.static arraycopyName ∈ GW ∧ Jvm.Cond.initialized "java/lang/System" ∈ GW ∧ 1 ≤ fr ∧ nativeFrameWords "java/lang/System" "arraycopy" 5 + 11 ≤ lo) ∨
          (∃ ws, an = 1 :: ws ∧ len = 3 ∧ chkC own ct fr lo ix ws = true ∧ (match lkC ct ix with | some ci => decide (ci.2.2.2.2.2.2.1 = 0) || decide (ci.2.2.2.2.2.2.1 = 4) | none => false) = true) ∨
          (∃ ws, an = 2 :: ws ∧ len = 3 ∧ Jvm.Cond.methodLink own ix Lib.Math.abs.name ∈ GW ∧ Jvm.Cond.static Lib.Math.abs.name ∈ GW ∧ Jvm.Cond.initialized "java/lang/Math" ∈ GW ∧ Jvm.Cond.code Lib.Math.abs.name Lib.Math.abs.code 1 (some .int) ∈ GW ∧ 1 ≤ fr ∧ 13 ≤ lo) ∨
          (∃ ws, an = 3 :: ws ∧ len = 3 ∧ Jvm.Cond.methodLink own ix Lib.Math.max.name ∈ GW ∧ Jvm.Cond.static Lib.Math.max.name ∈ GW ∧ Jvm.Cond.initialized "java/lang/Math" ∈ GW ∧ Jvm.Cond.code Lib.Math.max.name Lib.Math.max.code 2 (some .int) ∈ GW ∧ 1 ≤ fr ∧ 13 ≤ lo) := by
        rcases an with _ | ⟨n0, an⟩
        · cases hck
        · rcases n0 with _ | _ | _ | _ | n0
          · rcases an with _ | ⟨a1, _ | ⟨b1, _ | ⟨a2, _ | ⟨b2, _ | ⟨a3, _ | ⟨b3, _ | ⟨a4, _ | ⟨b4, _ | ⟨x9, an⟩⟩⟩⟩⟩⟩⟩⟩⟩
            all_goals first | (exact absurd hck Bool.false_ne_true) | skip
            simp only [Bool.and_eq_true, decide_eq_true_eq] at hck
            obtain ⟨⟨⟨⟨⟨⟨c0, c1⟩, c2⟩, c3⟩, c4⟩, c5⟩, c6⟩ := hck
            exact Or.inl ⟨a1, b1, a2, b2, a3, b3, a4, b4, rfl, c0, isW_in c1, isW_in c2, isW_in c3, isW_in c4, c5, c6⟩
          · simp only [Bool.and_eq_true, decide_eq_true_eq] at hck
            exact Or.inr (Or.inl ⟨an, rfl, hck.1.1, hck.1.2, hck.2⟩)
          · rcases an with _ | ⟨a1, _ | ⟨b1, _ | ⟨a2, _ | ⟨b2, _ | ⟨a3, _ | ⟨b3, _ | ⟨a4, _ | ⟨b4, _ | ⟨x9, an⟩⟩⟩⟩⟩⟩⟩⟩⟩
            all_goals first | (exact absurd hck Bool.false_ne_true) | skip
            simp only [Bool.and_eq_true, decide_eq_true_eq] at hck
            obtain ⟨⟨⟨⟨⟨⟨c0, c1⟩, c2⟩, c3⟩, c4⟩, c5⟩, c6⟩ := hck
            exact Or.inr (Or.inr (Or.inl ⟨_, rfl, c0, isW_in c1, isW_in c2, isW_in c3, isW_in c4, c5, c6⟩))
          · rcases an with _ | ⟨a1, _ | ⟨b1, _ | ⟨a2, _ | ⟨b2, _ | ⟨a3, _ | ⟨b3, _ | ⟨a4, _ | ⟨b4, _ | ⟨x9, an⟩⟩⟩⟩⟩⟩⟩⟩⟩
            all_goals first | (exact absurd hck Bool.false_ne_true) | skip
            simp only [Bool.and_eq_true, decide_eq_true_eq] at hck
            obtain ⟨⟨⟨⟨⟨⟨c0, c1⟩, c2⟩, c3⟩, c4⟩, c5⟩, c6⟩ := hck
            exact Or.inr (Or.inr (Or.inr ⟨_, rfl, c0, isW_in c1, isW_in c2, isW_in c3, isW_in c4, c5, c6⟩))
          · exact absurd hck Bool.false_ne_true
      rcases hck' with ⟨a1, b1, a2, b2, a3, b3, a4, b4, rfl, rfl, w1, w2, w3, w4, c5, c6⟩ | ⟨ws, rfl, rfl, hck, hmode⟩ | ⟨ws, rfl, rfl, w1, w2, w3, w4, c5, c6⟩ | ⟨ws, rfl, rfl, w1, w2, w3, w4, c5, c6⟩
      · simp only [stp] at h
        split at h
        · rename_i n dp k a sp k0 a0 st'
          split at h
          · rename_i n0 q0 n1 q1 hf0 hf1
            split at h
            · rename_i hsum
              obtain ⟨i0, i1, nn, hsp, hdp, hnn, b0, b1, h⟩ := h
              have kk := nx h
              intro wt tl ts mo rm H locs ls hP hS hL
              obtain ⟨-, t1⟩ := tOKs_cons.mp ts
              obtain ⟨-, t1⟩ := tOKs_cons.mp t1
              obtain ⟨ta, t1⟩ := tOKs_cons.mp t1
              obtain ⟨-, t1⟩ := tOKs_cons.mp t1
              obtain ⟨ta0, t2⟩ := tOKs_cons.mp t1
              have fin : k0 < 90 → k < 90 → W p l e R s m args below meth c H locs ce sl Q (F0 m pc ls ((.inl n :: .inl dp :: .inr (.inr (k, a)) :: .inl sp :: .inr (.inr (k0, a0)) :: st').map tvV)) := by
                intro h1 h2
                obtain ⟨e1, e2⟩ := ta.1 h2
                obtain ⟨e3, e4⟩ := ta0.1 h1
                exact r_copy hx hb (hml.trans hL.2.1.symm) hown hts hK hP hS w1 w2 w3 w4 e3 e4 hf0 e1 e2 hf1 hsp hdp hnn b0 b1 (by omega) (by rw [tvC_sum, hsum.1]; omega) hd fun H1 locs1 hP1 hS1 => s_keep kk rfl (wt_i wt) tl t2 mo rm hP1 hS1 hL
              exact fin hsum.2.1 hsum.2.2
            · exact h.elim
          · exact h.elim
        · exact h.elim
      · simp only [stp] at h
        split at h
        · rename_i ci hl
          rw [hl] at hmode
          simp only [Bool.or_eq_true, decide_eq_true_eq] at hmode
          exact s_call C' hR hfr hlo hG hsf hfol hThr hCat hck hl (hM ix ci hl) (Or.inl ⟨hd, hmode⟩) h
        · exact h.elim
      · simp only [stp] at h
        split at h
        · rename_i x st'
          split at h
          · rename_i hsum
            have kk := nx h
            intro wt tl ts mo rm H locs ls hP hS hL
            exact va_mabs hx hb (hml.trans hL.2.1.symm) hown (hts _ w1) (hts _ w2) (hts _ w3) (hts _ w4) (by omega) (by rw [tvC_sum, hsum]; omega) rm.1 rm.2 hd (kk wt tl (tOKs_cons.mpr ⟨trivial, (tOKs_cons.mp ts).2⟩) mo rm H locs ls hP hS hL)
          · exact h.elim
        · exact h.elim
      · simp only [stp] at h
        split at h
        · rename_i y x st'
          split at h
          · rename_i hsum
            have kk := nx h
            intro wt tl ts mo rm H locs ls hP hS hL
            exact va_mmax hx hb (hml.trans hL.2.1.symm) hown (hts _ w1) (hts _ w2) (hts _ w3) (hts _ w4) (by omega) (by rw [tvC_sum, hsum]; omega) rm.1 rm.2 hd (kk wt tl (tOKs_cons.mpr ⟨trivial, (tOKs_cons.mp (tOKs_cons.mp ts).2).2⟩) mo rm H locs ls hP hS hL)
          · exact h.elim
        · exact h.elim
    | invokespecial ix =>
      have hck' : (∃ a1 b1 a2 b2 a3 b3, an = [0, a1, b1, a2, b2, a3, b3] ∧ len = 3 ∧ Jvm.Cond.methodLink own ix Lib.objectInit ∈ GW ∧ Jvm.Cond.instanceMethod Lib.objectInit ∈ GW ∧ Jvm.Cond.code Lib.objectInit ⟨#[0xb1]⟩ 1 none ∈ GW ∧ 1 ≤ fr ∧ 12 ≤ lo) ∨
          (∃ k1 ws, an = 1 :: k1 :: ws ∧ len = 3 ∧ chkC own ct fr lo ix ws = true ∧ 1 ≤ k1 ∧ k1 < 90 ∧ (match lkC ct ix with | some ci => decide (ci.2.2.2.2.2.2.1 = 2) || decide (ci.2.2.2.2.2.2.1 = 3) | none => false) = true) := by
        rcases an with _ | ⟨n0, an⟩
        · cases hck
        · rcases n0 with _ | _ | n0
          · rcases an with _ | ⟨a1, _ | ⟨b1, _ | ⟨a2, _ | ⟨b2, _ | ⟨a3, _ | ⟨b3, _ | ⟨x9, an⟩⟩⟩⟩⟩⟩⟩
            all_goals first | (exact absurd hck Bool.false_ne_true) | skip
            simp only [Bool.and_eq_true, decide_eq_true_eq] at hck
            obtain ⟨⟨⟨⟨⟨c0, c1⟩, c2⟩, c3⟩, c5⟩, c6⟩ := hck
            exact Or.inl ⟨a1, b1, a2, b2, a3, b3, rfl, c0, isW_in c1, isW_in c2, isW_in c3, c5, c6⟩
          · rcases an with _ | ⟨k1, ws⟩
            · exact absurd hck Bool.false_ne_true
            · simp only [Bool.and_eq_true, decide_eq_true_eq] at hck
              exact Or.inr ⟨k1, ws, rfl, hck.1.1.1.1, hck.1.1.1.2, hck.1.1.2, hck.1.2, hck.2⟩
          · exact absurd hck Bool.false_ne_true
      rcases hck' with ⟨a1, b1, a2, b2, a3, b3, rfl, rfl, w1, w2, w3, c5, c6⟩ | ⟨k1, ws, rfl, rfl, hck, h1, h9, hmode⟩
      · simp only [stp] at h
        split at h
        · rename_i q st'
          split at h
          · rename_i hsum
            have kk := nx h
            intro wt tl ts mo rm H locs ls hP hS hL
            refine W.objInit hx hb hown (hts _ w1) (hts _ w2) (hts _ w3) (g := F0 m pc ls _) rfl (hL.2.1.trans hml.symm) (a := q.2) (rest := st'.map tvV) rfl hd (by omega) ?_ (kk wt tl (tOKs_cons.mp ts).2 mo rm H locs ls hP hS hL)
            rw [tvC_sum, hsum]
            show 2 * 0 + 0 + 12 ≤ R.locals
            omega
          · exact h.elim
        · exact h.elim
      · simp only [stp] at h
        split at h
        · rename_i ci hl
          rw [hl] at hmode
          simp only [Bool.or_eq_true, decide_eq_true_eq] at hmode
          exact s_ctor C' hR hfr hlo hG hsf hfol hck hl (hM ix ci hl) h1 h9 hd hmode h
        · exact h.elim
    | ireturn =>
      simp only [Bool.and_eq_true, Bool.or_eq_true, Bool.not_eq_true', decide_eq_true_eq] at hck
      obtain ⟨hl, hck⟩ := hck
      subst hl
      simp only [stp] at h
      split at h
      · rename_i x
        intro wt tl ts mo rm H locs ls hP hS hL
        split at h
        · rename_i hrz
          refine hRet (some (.inl x)) .ireturn μ H locs ls pc ce sl (Or.inr ?_) hd ⟨hP, wt, mo⟩ (fun w hw => by cases hw; trivial) rm hS h.2
          rcases hck with ⟨-, h9⟩ | ⟨h8, h9⟩
          · rw [hrz] at h9; cases h9
          · exact ⟨h8, h9, h.1⟩
        · rename_i hrz
          refine hRet (some (.inl x)) .ireturn μ H locs ls pc ce sl (Or.inl ?_) hd ⟨hP, wt, mo⟩ (fun w hw => by cases hw; trivial) rm hS h
          rcases hck with h8 | ⟨h8, h9⟩
          · exact h8
          · exact absurd h9 hrz
      · exact h.elim
    | lreturn =>
      simp only [Bool.and_eq_true, decide_eq_true_eq] at hck
      obtain ⟨hl, hck⟩ := hck
      subst hl
      simp only [stp] at h
      split at h
      · rename_i x
        intro wt tl ts mo rm H locs ls hP hS hL
        exact hRet (some (.inr (.inl x))) .lreturn μ H locs ls pc ce sl hck hd ⟨hP, wt, mo⟩ (fun w hw => by cases hw; trivial) rm hS h
      · exact h.elim
    | areturn =>
      simp only [Bool.and_eq_true, decide_eq_true_eq] at hck
      obtain ⟨hl, hck⟩ := hck
      subst hl
      simp only [stp] at h
      split at h
      · rename_i x
        intro wt tl ts mo rm H locs ls hP hS hL
        refine hRet (some (.inr (.inr x))) .areturn μ H locs ls pc ce sl ?_ hd ⟨hP, wt, mo⟩ (fun w hw => by cases hw; exact (tOKs_cons.mp ts).1) rm hS h
        split at hck
        · exact ⟨_, rfl⟩
        · cases hck
      · exact h.elim
    | return_ =>
      simp only [Bool.and_eq_true, decide_eq_true_eq] at hck
      obtain ⟨hl, hck⟩ := hck
      subst hl
      simp only [stp] at h
      split at h
      · intro wt tl ts mo rm H locs ls hP hS hL
        exact hRet none .return_ μ H locs ls pc ce sl hck hd ⟨hP, wt, mo⟩ (fun w hw => by cases hw) rm hS h
      · exact h.elim
    | _ => exact h.elim
end SA
end
section
/-! A METHOD IS SOUND where its second reading comes through from its entry to its ends. -/
def subL : LC → LC → Prop
  | [], [] => True
  | none :: a, _ :: b => subL a b
  | some v :: a, w :: b => w = some v ∧ subL a b
  | _, _ => False
theorem subL_len : ∀ {a b : LC}, subL a b → a.length = b.length
  | [], [], _ => rfl
  | none :: a, _ :: b, h => by simp [subL_len (a := a) (b := b) h]
  | some v :: a, w :: b, h => by simp [subL_len (a := a) (b := b) h.2]
  | [], _ :: _, h => h.elim
  | none :: _, [], h => h.elim
  | some _ :: _, [], h => h.elim
theorem subL_at : ∀ {a b : LC}, subL a b → ∀ (i : Nat) (v : TV), a[i]? = some (some v) → b[i]? = some (some v)
  | [], [], _, i, v, h => by simp at h
  | none :: a, _ :: b, hs, 0, v, h => by simp at h
  | none :: a, _ :: b, hs, i + 1, v, h => by
    rw [List.getElem?_cons_succ] at h ⊢
    exact subL_at (a := a) (b := b) hs i v h
  | some v0 :: a, w :: b, hs, 0, v, h => by
    rw [List.getElem?_cons_zero] at h ⊢
    rw [hs.1]
    exact h
  | some v0 :: a, w :: b, hs, i + 1, v, h => by
    rw [List.getElem?_cons_succ] at h ⊢
    exact subL_at (a := a) (b := b) hs.2 i v h
  | [], _ :: _, h, _, _, _ => h.elim
  | none :: _, [], h, _, _, _ => h.elim
  | some _ :: _, [], h, _, _, _ => h.elim
theorem subL_rf : ∀ {a : LC}, subL a a
  | [] => trivial
  | none :: a => subL_rf (a := a)
  | some _ :: a => ⟨rfl, subL_rf (a := a)⟩
/-- the locals at the entry -/
def entL : List TV → LC
  | [] => []
  | .inr (.inl x) :: r => some (.inr (.inl x)) :: none :: entL r
  | v :: r => some v :: entL r
def padL : Nat → LC → LC
  | 0, l => l
  | n + 1, [] => none :: padL n []
  | n + 1, v :: l => v :: padL n l
theorem padL_at : ∀ {n : Nat} {l : LC} {i : Nat} {v : TV}, (padL n l)[i]? = some (some v) → l[i]? = some (some v)
  | 0, _, _, _, h => h
  | n + 1, [], 0, v, h => by simp [padL] at h
  | n + 1, [], i + 1, v, h => by
    simp only [padL, List.getElem?_cons_succ] at h
    have := padL_at h
    simp at this
  | n + 1, w :: l, 0, v, h => by simpa [padL] using h
  | n + 1, w :: l, i + 1, v, h => by
    simp only [padL, List.getElem?_cons_succ] at h ⊢
    exact padL_at h
theorem padL_len : ∀ {n : Nat} {l : LC}, l.length ≤ n → (padL n l).length = n
  | 0, [], _ => rfl
  | 0, _ :: _, h => by simp at h
  | n + 1, [], _ => by simp [padL, padL_len (n := n) (l := []) (Nat.zero_le _)]
  | n + 1, _ :: l, h => by simp [padL, padL_len (n := n) (l := l) (by simpa using h)]
theorem entL_len : ∀ (As : List TV), (lg_sl (As.map tvV)).length = (entL As).length
  | [] => rfl
  | .inl x :: r => by
    have := entL_len r
    simp only [entL, List.length_cons, ← this]
    simp [lg_sl, tvV, Value.category]
  | .inr (.inl x) :: r => by
    have := entL_len r
    simp only [entL, List.length_cons, ← this]
    simp [lg_sl, tvV, Value.category]
  | .inr (.inr x) :: r => by
    have := entL_len r
    simp only [entL, List.length_cons, ← this]
    simp [lg_sl, tvV, Value.category]
theorem entL_at : ∀ (As : List TV) (k i : Nat) (v : TV), (entL As)[i]? = some (some v) → (k + i, tvV v) ∈ lv_args k (As.map tvV) ∧ v ∈ As
  | [], k, i, v, h => by simp [entL] at h
  | .inl x :: r, k, 0, v, h => by
    simp [entL] at h
    subst h
    exact ⟨by simp [lv_args], List.mem_cons_self⟩
  | .inl x :: r, k, i + 1, v, h => by
    simp only [entL, List.getElem?_cons_succ] at h
    obtain ⟨h1, h2⟩ := entL_at r (k + 1) i v h
    refine ⟨?_, List.mem_cons_of_mem _ h2⟩
    show (k + (i + 1), tvV v) ∈ (k, _) :: lv_args _ _
    rw [show k + (i + 1) = k + 1 + i by omega]
    exact List.mem_cons_of_mem _ h1
  | .inr (.inr x) :: r, k, 0, v, h => by
    simp [entL] at h
    subst h
    exact ⟨by simp [lv_args], List.mem_cons_self⟩
  | .inr (.inr x) :: r, k, i + 1, v, h => by
    simp only [entL, List.getElem?_cons_succ] at h
    obtain ⟨h1, h2⟩ := entL_at r (k + 1) i v h
    refine ⟨?_, List.mem_cons_of_mem _ h2⟩
    show (k + (i + 1), tvV v) ∈ (k, _) :: lv_args _ _
    rw [show k + (i + 1) = k + 1 + i by omega]
    exact List.mem_cons_of_mem _ h1
  | .inr (.inl x) :: r, k, 0, v, h => by
    simp [entL] at h
    subst h
    exact ⟨by simp [lv_args], List.mem_cons_self⟩
  | .inr (.inl x) :: r, k, 1, v, h => by simp [entL] at h
  | .inr (.inl x) :: r, k, i + 2, v, h => by
    simp only [entL, List.getElem?_cons_succ] at h
    obtain ⟨h1, h2⟩ := entL_at r (k + 2) i v h
    refine ⟨?_, List.mem_cons_of_mem _ h2⟩
    show (k + (i + 2), tvV v) ∈ (k, _) :: lv_args _ _
    rw [show k + (i + 2) = k + 2 + i by omega]
    exact List.mem_cons_of_mem _ h1
/-- a handler's table beside the tables' -/
def tabOK (own : String) : List (Nat × Nat × Nat × Nat) → List (Nat × Nat × Nat × Nat) → Bool
  | [], [] => true
  | (a, b, h, e) :: r, (a', b', h', ix) :: r' => decide (a = a') && decide (b = b') && decide (h = h') && decide (¬ ix = 0) && (decide (e = 1) || decide (e = 2) || decide (e = 3)) && decide (Jvm.Cond.classLink own ix (exN e) ∈ lw_tbl) && goodWord (Jvm.Cond.classLink own ix (exN e)) && tabOK own r r'
  | _, _ => false
def chkM (ci : CI) (own : String) (code : List Ent) (ct : List (Nat × CI)) (hn : List (Nat × Nat × Nat × Nat)) (rz ini : Bool) : Bool :=
  plainName own && decide (ci.1.cls = own) && (!ini || decide (ci.1.name = "<init>")) && code.all (chkE own ci.2.1 ct ci.2.2.2.2.2.1.1 ci.2.2.2.2.2.1.2.2.2 ini rz ci.2.2.2.1) && chain code && (match code with | e :: _ => decide (e.1 = 0) | [] => false) &&
  (if ci.2.2.2.2.2.2.1 = 4 then tabOK own hn ci.2.2.2.2.2.2.2.1 && decide (¬ own = RX9) else hn.isEmpty)
theorem chain_fol {code : List Ent} (h : chain code = true) : ∀ {pre : List Ent} {e0 : Ent} {rest : List Ent}, code = pre ++ e0 :: rest → isThr e0 = false → folE e0 rest := by
  induction code with
  | nil => intro pre e0 rest he _; simp at he
  | cons e1 code ih =>
    intro pre e0 rest he ht
    cases pre with
    | nil =>
      rw [List.nil_append] at he
      injection he with h1 h2
      subst h1; subst h2
      intro e2 r hr
      subst hr
      simp only [chain, Bool.and_eq_true, Bool.or_eq_true, decide_eq_true_eq] at h
      exact h.1.resolve_left (by rw [ht]; decide)
    | cons p0 pre =>
      rw [List.cons_append] at he
      injection he with h1 h2
      refine ih ?_ h2 ht
      cases code with
      | nil => rfl
      | cons e2 r =>
        simp only [chain, Bool.and_eq_true] at h
        exact h.2
theorem lkC_mem {ct : List (Nat × CI)} {ix : Nat} {ci : CI} (h : lkC ct ix = some ci) : ∃ q ∈ ct, q.2 = ci := by
  induction ct with
  | nil => cases h
  | cons q ct ih =>
    simp only [lkC] at h
    split at h
    · cases h
      exact ⟨q, List.mem_cons_self, rfl⟩
    · obtain ⟨q', h1, h2⟩ := ih h
      exact ⟨q', List.mem_cons_of_mem _ h1, h2⟩
/-- from a cut on: one instruction, then as far as the next -/
def vcS (ot : OT) (code : List Ent) (ct : List (Nat × CI)) (hn : List (Nat × Nat × Nat × Nat)) (R : Nat × Nat) (rz : Bool) (z0 : Nat) (xo : Option Nat) (cut : List Nat) (K : Nat → LC → List TV → MM → Nat → Nat → Prop) (Rt : OC → MM → Prop) (fuel pc : Nat) (lc : LC) (st : List TV) (μ : MM) (ce sl : Nat) : Prop := match goTo code pc with
  | [] => False
  | e :: rest => stp KT ot code ct hn R rz z0 xo (vc KT ot code ct hn R rz z0 xo cut K Rt fuel) Rt e rest lc st μ ce sl
section ME
variable {p : Program} {l : Launch} {e : Env} {R : Room} {s : State} {m : MethodId} {args : Array Value} {below : List Frame} {meth : Method} {c : Code} {Q : State → Prop}
variable {cc : ByteArray} {g : GPT} {ot : OT} {own : String} {nL : Nat} {ex : Option Nat} {μ0 : MM}
theorem WW.sub {pc : Nat} {lc lc' : LC} {st : List TV} {μ : MM} {ce sl : Nat} (h : WW p l e R s m args below meth c Q g nL ex μ0 pc lc' st μ ce sl) (hs : subL lc' lc) : WW p l e R s m args below meth c Q g nL ex μ0 pc lc st μ ce sl := by
  intro wt tl ts mo rm H locs ls hP hS hL
  exact h wt (fun i v hi => tl i v (subL_at hs i v hi)) ts mo rm H locs ls hP hS ⟨by rw [subL_len hs]; exact hL.1, hL.2.1, hL.2.2.1, fun i v hi => hL.2.2.2 i v (subL_at hs i v hi)⟩
theorem vc_ok {fr lo : Nat} {ini rz : Bool} {ret : Option FieldType} {code : List Ent} {ct : List (Nat × CI)} {hn : List (Nat × Nat × Nat × Nat)} {Rn : Nat × Nat} {Rt : OC → MM → Prop} {cut : List Nat} {K : Nat → LC → List TV → MM → Nat → Nat → Prop}
    (C : CX p s m args c cc nL own g ot) (hini : ini = true → meth.name = "<init>") (hR : Rn = (R.cells, R.slots)) (hfr : fr ≤ R.frames) (hlo : lo ≤ R.locals)
    (hThr : hThrQ p l e R s m args below meth c Q g ex μ0 Rt hn) (hCat : hCatQ p l e R s m args below meth c Q hn)
    (hRet : hRetQ p l e R s m args below meth c Q cc ret rz g ex μ0 Rt) (hNew : hNewQ p l e R s m args below meth c Q cc nL own g ex μ0 Rt)
    (hM : ∀ ix ci, lkC ct ix = some ci → MS g ot l ci) (hck : code.all (chkE own cc ct fr lo ini rz ret) = true) (hch : chain code = true)
    (hKc : ∀ pc lc st μ ce sl, K pc lc st μ ce sl → WW p l e R s m args below meth c Q g nL ex μ0 pc lc st μ ce sl) :
    ∀ (fuel : Nat) (es : List Ent) (lc : LC) (st : List TV) (μ : MM) (ce sl : Nat), (∃ pre, code = pre ++ es) → vc KT ot code ct hn Rn rz μ0.2.2.2.2 ex cut K Rt fuel es lc st μ ce sl → WWr p l e R s m args below meth c Q g nL ex μ0 es lc st μ ce sl
  | 0, _, _, _, _, _, _, _, h => h.elim
  | n + 1, [], _, _, _, _, _, _, h => h.elim
  | n + 1, e0 :: rest, lc, st, μ, ce, sl, hsf, h => by
    obtain ⟨pre, hpre⟩ := hsf
    simp only [vc] at h
    split at h
    · exact hKc _ _ _ _ _ _ h
    · exact stp_ok C hini hR hfr hlo (vc_ok C hini hR hfr hlo hThr hCat hRet hNew hM hck hch hKc n) ⟨pre ++ [e0], by rw [List.append_assoc]; exact hpre⟩ (chain_fol hch hpre) hThr hCat hRet hNew hM (List.all_eq_true.mp hck e0 (by rw [hpre]; exact List.mem_append_right _ List.mem_cons_self)) h
theorem vcS_ok {fr lo fuel pc : Nat} {ini rz : Bool} {ret : Option FieldType} {code : List Ent} {ct : List (Nat × CI)} {hn : List (Nat × Nat × Nat × Nat)} {Rn : Nat × Nat} {Rt : OC → MM → Prop} {cut : List Nat} {K : Nat → LC → List TV → MM → Nat → Nat → Prop} {lc : LC} {st : List TV} {μ : MM} {ce sl : Nat}
    (C : CX p s m args c cc nL own g ot) (hini : ini = true → meth.name = "<init>") (hR : Rn = (R.cells, R.slots)) (hfr : fr ≤ R.frames) (hlo : lo ≤ R.locals)
    (hThr : hThrQ p l e R s m args below meth c Q g ex μ0 Rt hn) (hCat : hCatQ p l e R s m args below meth c Q hn)
    (hRet : hRetQ p l e R s m args below meth c Q cc ret rz g ex μ0 Rt) (hNew : hNewQ p l e R s m args below meth c Q cc nL own g ex μ0 Rt)
    (hM : ∀ ix ci, lkC ct ix = some ci → MS g ot l ci) (hck : code.all (chkE own cc ct fr lo ini rz ret) = true) (hch : chain code = true)
    (hKc : ∀ pc lc st μ ce sl, K pc lc st μ ce sl → WW p l e R s m args below meth c Q g nL ex μ0 pc lc st μ ce sl)
    (h : vcS ot code ct hn Rn rz μ0.2.2.2.2 ex cut K Rt fuel pc lc st μ ce sl) : WW p l e R s m args below meth c Q g nL ex μ0 pc lc st μ ce sl := by
  unfold vcS at h
  split at h
  · exact h.elim
  · rename_i e0 rest hg
    obtain ⟨pre, hpre⟩ := goTo_sfx (code := code) (t := pc)
    rw [hg] at hpre
    have hpc := goTo_hd hg
    have := stp_ok C hini hR hfr hlo (vc_ok C hini hR hfr hlo hThr hCat hRet hNew hM hck hch hKc fuel) ⟨pre ++ [e0], by rw [List.append_assoc]; exact hpre⟩ (chain_fol hch hpre) hThr hCat hRet hNew hM (List.all_eq_true.mp hck e0 (by rw [hpre]; exact List.mem_append_right _ List.mem_cons_self)) h
    rw [hpc] at this
    exact this
/-- loops: 'I n' holds at the cuts, n falls -/
theorem loop_ok {fr lo fuel : Nat} {ini rz : Bool} {ret : Option FieldType} {code : List Ent} {ct : List (Nat × CI)} {hn : List (Nat × Nat × Nat × Nat)} {Rn : Nat × Nat} {Rt : OC → MM → Prop} {cut : List Nat} {I : Nat → Nat → LC → List TV → MM → Nat → Nat → Prop}
    (C : CX p s m args c cc nL own g ot) (hini : ini = true → meth.name = "<init>") (hR : Rn = (R.cells, R.slots)) (hfr : fr ≤ R.frames) (hlo : lo ≤ R.locals)
    (hThr : hThrQ p l e R s m args below meth c Q g ex μ0 Rt hn) (hCat : hCatQ p l e R s m args below meth c Q hn)
    (hRet : hRetQ p l e R s m args below meth c Q cc ret rz g ex μ0 Rt) (hNew : hNewQ p l e R s m args below meth c Q cc nL own g ex μ0 Rt)
    (hM : ∀ ix ci, lkC ct ix = some ci → MS g ot l ci) (hck : code.all (chkE own cc ct fr lo ini rz ret) = true) (hch : chain code = true)
    (hI : ∀ n pc lc st μ ce sl, I n pc lc st μ ce sl → vcS ot code ct hn Rn rz μ0.2.2.2.2 ex cut (fun pc lc st μ ce sl => ∃ n' lc', n' < n ∧ subL lc' lc ∧ I n' pc lc' st μ ce sl) Rt fuel pc lc st μ ce sl) :
    ∀ (n pc : Nat) (lc : LC) (st : List TV) (μ : MM) (ce sl : Nat), I n pc lc st μ ce sl → WW p l e R s m args below meth c Q g nL ex μ0 pc lc st μ ce sl := by
  intro n
  induction n using Nat.strongRecOn with
  | _ n ih =>
    intro pc lc st μ ce sl h
    exact vcS_ok C hini hR hfr hlo hThr hCat hRet hNew hM hck hch (fun pc lc st μ ce sl ⟨n', lc', hn', hs, h'⟩ => (ih n' hn' pc lc' st μ ce sl h').sub hs) (hI n pc lc st μ ce sl h)
end ME
end
section
/-! The method's own ends: returns, throws, handlers; and its contract. -/
section MT
variable {p : Program} {l : Launch} {e : Env} {s : State} {m : MethodId} {below : List Frame} {meth : Method} {c : Code}
variable {g : GPT} {ot : OT} {nL : Nat} {ex : Option Nat} {μ0 : MM} {K : OC → MM → Prop} {args : Array Value} {cc : ByteArray} {own : String} {ret : Option FieldType} {rz : Bool} {R : Room} {mc ms : Nat}
theorem F_of {H : Heap} {locs : List Loc} {t : State} (hS : va_S (Ag g) s.heap H locs) (ht : t.heap = H) : va_F (Ag g) s t := ⟨by rw [ht]; exact hS.1, fun q h1 h2 => by rw [ht]; exact hS.2.1 q h1 h2⟩
theorem m_ret (hx : p.tables.exec = Jvm.exec) (hb : c.code = cc) (hr : meth.sig.returnType = ret) (hlocks : meth.locks = false) (hc : R.cells = mc) (hs : R.slots = ms) :
    hRetQ p l e R s m args below meth c (vx_MQ below (okQ g ex μ0 K) (okX g ex μ0 K) args s mc ms (Ag g)) cc ret rz g ex μ0 K := by
  intro v i μ H locs ls pc ce sl hri hd hpo hv hrm hS hk
  rw [hc, hs] at hrm
  refine W.widen hrm.1 hrm.2 (vx_ret ?_)
  have fin : ∀ t : State, t.heap = H → okQ g ex μ0 K args s (.returned (v.map tvV)) t := fun t ht => ⟨⟨v, μ, rfl, by rw [ht]; exact hpo, hv, hk⟩, F_of hS ht⟩
  cases v with
  | none =>
    cases i <;> first | exact hri.elim | skip
    exact W.vret hx hb (hr.trans hri) (fun t ht _ => fin t ht) hS.2.2 hd hlocks
  | some w =>
    rcases w with x | x | x
    · cases i <;> first | exact hri.elim | skip
      rcases hri with ⟨h1, -⟩ | ⟨h1, -, hz⟩
      · exact W.iret hx hb (hr.trans h1) (fun t ht _ => fin t ht) hS.2.2 hd hlocks
      · exact W.zret hx hb (hr.trans h1) (z_nar hz).2.1 (fun t ht _ => fin t ht) hS.2.2 hd hlocks
    · cases i <;> first | exact hri.elim | skip
      exact W.lret hx hb (hr.trans hri) (fun t ht _ => fin t ht) hS.2.2 hd hlocks
    · cases i <;> first | exact hri.elim | skip
      obtain ⟨n, h1⟩ := hri
      exact W.aret hx hb (hr.trans h1) (Or.inl ⟨n, rfl⟩) (Or.inr ⟨x.2, rfl⟩) (fun t ht _ => fin t ht) hS.2.2 hd hlocks
theorem m_thr {hn : List (Nat × Nat × Nat × Nat)} (hlocks : meth.locks = false) (hc : R.cells = mc) (hs : R.slots = ms) (ht : hn = [] → ∀ x ∈ c.exceptionTable.toList, False) :
    hThrQ p l e R s m args below meth c (vx_MQ below (okQ g ex μ0 K) (okX g ex μ0 K) args s mc ms (Ag g)) g ex μ0 K hn := by
  intro i μ H locs ls rest pc ce sl q cell hne hi hpo hk hrm hS hcell hv hcl
  rw [hc, hs] at hrm
  exact vx_out (fun x hx => (ht hne x hx).elim) hlocks hcell hv hcl (fun t ht' _ => ⟨⟨i, μ, hi, rfl, by rw [ht']; exact hpo, hk⟩, F_of hS ht'⟩) hS.2.2 hrm.1 hrm.2
theorem HP.grow {μ : MM} {H H1 : Heap} (h : HP g μ H) (hz : H.size ≤ H1.size) (hq : ∀ q : Nat, q < H.size → H1[q]? = H[q]?) : HP g (μ.1, μ.2.1, μ.2.2.1, μ.2.2.2.1, H1.size) H1 :=
  ⟨rfl, Nat.le_trans h.2.1 hz, fun a ha => ⟨(h.2.2 a ha).1, by
    rw [show FE g (μ.1, μ.2.1, μ.2.2.1, μ.2.2.2.1, H1.size) (μ.2.2.2.1 a) a = FE g μ (μ.2.2.2.1 a) a from FE_ag (μ := μ) ⟨rfl, rfl, rfl⟩]
    exact (h.2.2 a ha).2.kept (hq a (h.2.2 a ha).2.lt)⟩⟩
theorem exW {i : Nat} (hi : i ∈ [1, 2, 3]) : Bundle.fit (exN i) = true := by
  simp only [List.mem_cons, List.not_mem_nil, or_false] at hi
  rcases hi with rfl | rfl | rfl <;> decide +kernel
theorem fit_ns : ∀ n ∈ exNs, Bundle.fit n = true := by decide +kernel
theorem m_new (hx : p.tables.exec = Jvm.exec) (hb : c.code = cc) (hml : c.maxLocals = nL) (hown : s.vm.findClass own = some m.cls) (hts : ∀ w ∈ GW, w.before args s = true) (hK : KU g ot s) (hlocks : meth.locks = false) (hl : l.stackTraces = false) (hc : R.cells = mc) (hs : R.slots = ms) (ht : own = RX9 → ∀ x ∈ c.exceptionTable.toList, False) :
    hNewQ p l e R s m args below meth c (vx_MQ below (okQ g ex μ0 K) (okX g ex μ0 K) args s mc ms (Ag g)) cc nL own g ex μ0 K := by
  intro i j q μ H locs ls pc ce sl ho hi hq hq1 d0 d3 d4 d6 d9 hfr hlo hpo hrm hS hls hk
  rw [hc, hs] at hrm
  have ht' := ht ho
  subst ho
  obtain ⟨a, hstr⟩ := hK.2.2.2.2.2.2.2.2.2.2.2 q (List.mem_of_getElem? hq)
  rw [hq1] at hstr
  have hU := hK.2.2.2.2.2.2.2.2.2.1
  have hN := hK.2.2.2.2.2.2.2.2.2.2.1
  have a2 := fun w hw => at_in2 i hi w hw
  have w1 : (Jvm.Cond.classLink RX9 (exI i) (exN i)) ∈ GW := by
    have h := a2 _ List.mem_cons_self
    simp only [Bool.and_eq_true, decide_eq_true_eq] at h
    exact List.mem_filter.mpr ⟨h.1.1, h.2⟩
  have w2 : (Jvm.Cond.initialized (exN i)) ∈ GW := by
    have h := a2 _ (List.mem_cons_of_mem _ List.mem_cons_self)
    simp only [Bool.and_eq_true, decide_eq_true_eq] at h
    exact List.mem_filter.mpr ⟨h.1.1, h.2⟩
  have hat : ∀ w ∈ vx_atS RX9 (exC i) (exN i) exNs, w.before args s = true := by
    intro w hw
    have h := at_in i hi w hw
    simp only [Bool.and_eq_true, Bool.or_eq_true, decide_eq_true_eq] at h
    rcases h.2 with (h2 | h2) | h2
    · exact hts _ (List.mem_filter.mpr ⟨h.1.1, h2⟩)
    · rw [h2]
      exact va_Nw.use rfl (hK.2.2.2.2.1 i hi)
    · obtain ⟨C, hC, h3⟩ := List.any_eq_true.mp h2
      rw [of_decide_eq_true h3]
      exact va_Nw.use rfl (hK.2.2.2.2.2.1 C hC)
  have hgood : ∀ w ∈ Jvm.Cond.classLink RX9 (exI i) (exN i) :: Jvm.Cond.initialized (exN i) :: vx_atS RX9 (exC i) (exN i) exNs, vx_ot w = true := by
    intro w hw
    rcases List.mem_cons.mp hw with e1 | hw
    · have h := a2 w (by rw [e1]; exact List.mem_cons_self)
      simp only [Bool.and_eq_true] at h
      exact h.1.2
    · rcases List.mem_cons.mp hw with e1 | hw
      · have h := a2 w (by rw [e1]; exact List.mem_cons_of_mem _ List.mem_cons_self)
        simp only [Bool.and_eq_true] at h
        exact h.1.2
      · have h := at_in i hi w hw
        simp only [Bool.and_eq_true] at h
        exact h.1.2
  refine vx_throwS hx hb hl hown (exW hi) fit_ns (hts _ w1) (hts _ w2) hstr hat hgood hU hN hS (hls.trans hml.symm) d0 d3 d4 d6 d9 (fun x hx' => (ht' x hx').elim) (by show 2 + 3 < R.frames; omega) (by show 0 + (13 * (2 + 1) + 43) ≤ R.locals; omega) (by rw [hc]; exact hrm.1) (by rw [hs]; exact hrm.2) hlocks (fun t hal hz hq' => ?_) hS.2.2 hrm.1 hrm.2
  refine ⟨⟨i, (μ.1, μ.2.1, μ.2.2.1, μ.2.2.2.1, t.heap.size), hi, rfl, ⟨hpo.1.grow hz hq', fun b => wtK_mono (hpo.2.1 b) rfl (fun _ _ _ => rfl), hpo.2.2.tr (by show _ ≤ t.heap.size; rw [← hpo.1.1]; exact hz) (fun _ _ _ => rfl)⟩, hk _ (by rw [← hpo.1.1]; exact hz)⟩, ?_⟩
  exact ⟨Nat.le_trans hS.1 hz, fun q h1 h2 => (hq' q (Nat.lt_of_lt_of_le h1 hS.1)).trans (hS.2.1 q h1 h2)⟩
theorem cat_go {Q : State → Prop} {Hh : Heap} {locs : List Loc} {ls : Array Slot} {rest : List Value} {ce sl i h pc : Nat} {q : Addr} {cell : Cell} (hown : s.vm.findClass own = some m.cls) (hts : ∀ w ∈ GW, w.before args s = true) (hK : KU g ot s) (hi : i ∈ [1, 2, 3])
    (hcell : Hh[q]? = some cell) (hv : cell.vm = .none) (hcl : s.vm.findClass (exN i) = some cell.cls) (kk : W p l e R s m args below meth c Hh locs ce sl Q (F0 m h ls [.ref q])) :
    ∀ (hn hh : List (Nat × Nat × Nat × Nat)) (pre : List ExceptionTableEntry), tabOK own hn hh = true → catR hn pc i = some h → c.exceptionTable.toList = pre ++ tableOf hh → (∀ z ∈ pre, covers z pc = false ∨ (z.catchType ≠ 0 ∧ ∃ nm : String, (Jvm.Cond.classLink own z.catchType nm).before args s = true ∧ va_Nc (exN i) nm s)) →
      vx_W p l e R s m args below meth c Hh locs ce sl Q (F0 m pc ls rest) q
  | [], _, _, _, hc, _, _ => by cases hc
  | _ :: _, [], _, ht, _, _, _ => by cases ht
  | (a, b, h', e') :: hn, (a2, b2, h2, ix) :: hh, pre, ht, hc, htab, hpass => by
    simp only [tabOK, Bool.and_eq_true, Bool.or_eq_true, decide_eq_true_eq] at ht
    obtain ⟨⟨⟨⟨⟨⟨⟨rfl, rfl⟩, rfl⟩, h0⟩, he'⟩, hin⟩, hg⟩, hr⟩ := ht
    have hw : (Jvm.Cond.classLink own ix (exN e')).before args s = true := hts _ (List.mem_filter.mpr ⟨hin, hg⟩)
    have hcov : covers (⟨a, b, h', ix⟩ : ExceptionTableEntry) pc = (decide (a ≤ pc) && decide (pc < b)) := rfl
    simp only [catR] at hc
    split at hc
    · rename_i hcond
      obtain ⟨c1, c2, rfl⟩ := hcond
      cases Option.some.inj hc
      refine vx_catch (E := exN e') (name := exN e') hown pre ⟨a, b, h, ix⟩ (tableOf hh) htab hpass (by rw [hcov, decide_eq_true c1, decide_eq_true c2]; rfl) h0 hw (va_Nw.use rfl (hK.2.2.2.2.1 e' hi)) hcell hv hcl kk
    · rename_i hcond
      refine cat_go hown hts hK hi hcell hv hcl kk hn hh (pre ++ [⟨a, b, h', ix⟩]) hr hc (by rw [htab, List.append_assoc]; rfl) fun z hz => ?_
      rcases List.mem_append.mp hz with hz | hz
      · exact hpass z hz
      · rw [List.mem_singleton.mp hz]
        by_cases hc1 : a ≤ pc ∧ pc < b
        · refine Or.inr ⟨h0, exN e', hw, hK.2.2.2.2.2.2.1 i hi e' (by simp; omega) fun q => hcond ⟨hc1.1, hc1.2, q.symm⟩⟩
        · refine Or.inl ?_
          rw [hcov]
          by_cases c1 : a ≤ pc
          · have c2 : ¬ pc < b := fun q => hc1 ⟨c1, q⟩
            rw [decide_eq_false c2, Bool.and_false]
          · rw [decide_eq_false c1, Bool.false_and]
end MT
theorem trace0 {l : Launch} (h : l.flags = flags0) : l.stackTraces = false := by
  unfold Launch.stackTraces
  rw [h]
  decide +kernel
/-- THE CONTRACT OF A METHOD out of its second reading -/
theorem ms_of {g : GPT} {ot : OT} {l : Launch} (hl : l.stackTraces = false) {ci : CI} (own : String) (code : List Ent) (ct : List (Nat × CI)) (hn : List (Nat × Nat × Nat × Nat)) (rz ini : Bool) (cut : List Nat) (fuel : Nat)
    (hck : chkM ci own code ct hn rz ini = true) (hM : ∀ q ∈ ct, MS g ot l q.2)
    (h : ∀ (As : List TV) (μ : MM) (K : OC → MM → Prop), ci.2.2.2.2.2.2.2.2 As μ K → (entL As).length ≤ ci.2.2.1 ∧ ∃ I : Nat → Nat → LC → List TV → MM → Nat → Nat → Prop,
      vc KT ot code ct hn (ci.2.2.2.2.2.1.2.1, ci.2.2.2.2.2.1.2.2.1) rz μ.2.2.2.2 (exO ci.2.2.2.2.2.2.1 As) cut (fun pc lc st μ ce sl => ∃ n lc', subL lc' lc ∧ I n pc lc' st μ ce sl) K fuel code (padL ci.2.2.1 (entL As)) [] μ 0 0 ∧
      ∀ n pc lc st μ' ce sl, I n pc lc st μ' ce sl → vcS ot code ct hn (ci.2.2.2.2.2.1.2.1, ci.2.2.2.2.2.1.2.2.1) rz μ.2.2.2.2 (exO ci.2.2.2.2.2.2.1 As) cut (fun pc lc st μ ce sl => ∃ n' lc', n' < n ∧ subL lc' lc ∧ I n' pc lc' st μ ce sl) K fuel pc lc st μ' ce sl) : MS g ot l ci := by
  intro As μ K wt ta hlen hsp
  obtain ⟨hentl, I, hv, hI⟩ := h As μ K hsp
  obtain ⟨y, cb, mL, ret, n, ⟨f2, mc, ms, l2⟩, mode, hh, sp⟩ := ci
  simp only [chkM, Bool.and_eq_true, decide_eq_true_eq, Bool.or_eq_true, Bool.not_eq_true'] at hck
  obtain ⟨⟨⟨⟨⟨⟨k1, k2⟩, k3⟩, k4⟩, k5⟩, k6⟩, k7⟩ := hck
  dsimp only at k2 k3 k4 k7 hv hI hentl ta hsp
  have hM' : ∀ ix ci, lkC ct ix = some ci → MS g ot l ci := fun ix ci h => by
    obtain ⟨q, h1, h2⟩ := lkC_mem h
    rw [← h2]
    exact hM q h1
  have hini : ∀ {s : State} {mk : MethodId} {meth : Method}, s.methodNamed? y = some mk → s.vm.method? mk = some meth → ini = true → meth.name = "<init>" := fun h1 h2 h3 => by
    rw [(name_of_methodNamed h1 h2).1]
    rcases k3 with k3 | k3
    · rw [h3] at k3; cases k3
    · exact k3
  obtain ⟨e0, rest0, hcode, he0⟩ : ∃ e0 rest0, code = e0 :: rest0 ∧ e0.1 = 0 := by
    cases code with
    | nil => cases k6
    | cons e0 r => exact ⟨e0, r, rfl, of_decide_eq_true k6⟩
  show vx_Met l y (wsOf (y, cb, mL, ret, n, (f2, mc, ms, l2), mode, hh, sp)) { frames := f2, cells := mc, slots := ms, locals := l2 } (pcQ g ot As μ) (okQ g (exO mode As) μ K) (okX g (exO mode As) μ K) mc ms (Ag g)
  have body : ∀ (ws : List Jvm.Cond) (p : Program) (e : Env) (s : State) (m : MethodId) (args : Array Value) (below : List Frame) (meth : Method) (c : Code) (s₁ : State), (∀ w ∈ GW, w ∈ ws) → BodyLoose p l y (headSpec ws { frames := f2, cells := mc, slots := ms, locals := l2 }) cb mL ret e s m args below meth c s₁ → c.maxLocals = mL → (hn = [] → ∀ x ∈ c.exceptionTable.toList, False) → (own = RX9 → ∀ x ∈ c.exceptionTable.toList, False) → hCatQ p l e { frames := f2, cells := mc, slots := ms, locals := l2 } s m args below meth c (vx_MQ below (okQ g (exO mode As) μ K) (okX g (exO mode As) μ K) args s mc ms (Ag g)) hn → pcQ g ot As μ args s →
      W p l e { frames := f2, cells := mc, slots := ms, locals := l2 } s m args below meth c s.heap [] 0 0 (vx_MQ below (okQ g (exO mode As) μ K) (okX g (exO mode As) μ K) args s mc ms (Ag g)) (entryFrame m args mL) := by
    intro ws p e s m args below meth c s₁ hws B hml ht1 ht2 hCat hP
    obtain ⟨rfl, hP, hK⟩ := hP
    have hx := B.exec
    have hb := B.bytes
    have hr := B.returns
    have hts0 := atoms_spec (ws := ws) B.pre
    have hts : ∀ w ∈ GW, w.before (As.map tvV).toArray s = true := fun w hw => hts0 w (hws w hw)
    have hown : s.vm.findClass own = some m.cls := k2 ▸ findClass_of_methodNamed B.named
    have hlocks := B.notSynchronized
    have C : CX p s m (As.map tvV).toArray c cb mL own g ot := ⟨hx, hb, hml, hown, hts, hK⟩
    have hThr := m_thr (p := p) (l := l) (e := e) (s := s) (m := m) (below := below) (meth := meth) (c := c) (g := g) (ex := exO mode As) (μ0 := μ) (K := K) (args := (As.map tvV).toArray) (R := { frames := f2, cells := mc, slots := ms, locals := l2 }) (hn := hn) hlocks rfl rfl ht1
    have hRet := m_ret (p := p) (l := l) (e := e) (s := s) (m := m) (below := below) (meth := meth) (c := c) (g := g) (ex := exO mode As) (μ0 := μ) (K := K) (args := (As.map tvV).toArray) (R := { frames := f2, cells := mc, slots := ms, locals := l2 }) (rz := rz) hx hb hr hlocks rfl rfl
    have hNew := m_new (p := p) (l := l) (e := e) (s := s) (m := m) (below := below) (meth := meth) (c := c) (g := g) (ex := exO mode As) (μ0 := μ) (K := K) (args := (As.map tvV).toArray) (R := { frames := f2, cells := mc, slots := ms, locals := l2 }) hx hb hml hown hts hK hlocks hl rfl rfl ht2
    have hlp := loop_ok (fuel := fuel) (cut := cut) (I := I) (Rt := K) C (fun h => hini B.named B.method h) rfl (Nat.le_refl f2) (Nat.le_refl l2) hThr hCat hRet hNew hM' k4 k5 hI
    have hvk := vc_ok (cut := cut) (Rt := K) (K := fun pc lc st μ ce sl => ∃ n lc', subL lc' lc ∧ I n pc lc' st μ ce sl) C (fun h => hini B.named B.method h) rfl (Nat.le_refl f2) (Nat.le_refl l2) hThr hCat hRet hNew hM' k4 k5 (fun pc lc st μ' ce sl ⟨n', lc', hs, h'⟩ => (hlp n' pc lc' st μ' ce sl h').sub hs) fuel code _ _ _ _ _ ⟨[], rfl⟩ hv
    rw [hcode] at hvk
    have hw : WW p l e { frames := f2, cells := mc, slots := ms, locals := l2 } s m (As.map tvV).toArray below meth c (vx_MQ below (okQ g (exO mode As) μ K) (okX g (exO mode As) μ K) (As.map tvV).toArray s mc ms (Ag g)) g mL (exO mode As) μ e0.1 (padL mL (entL As)) [] μ 0 0 := hvk
    rw [he0] at hw
    rw [lg_entry_eq]
    have hle : (lg_sl (As.map tvV)).length ≤ mL := by rw [entL_len]; exact hentl
    obtain ⟨z1, z2, z3⟩ := lv_entry (As.map tvV) hle
    exact hw wt (fun i v hi => ta v (entL_at As 0 i v (padL_at hi)).2) tOKs_nil MO.rf ⟨Nat.zero_le _, Nat.zero_le _⟩ s.heap [] _ hP va_S.rf ⟨padL_len hentl, z1, z2, fun i v hi => by
      have h1 := (entL_at As 0 i v (padL_at hi)).1
      rw [Nat.zero_add] at h1
      exact z3 _ h1⟩
  by_cases hm4 : mode = 4
  · subst hm4
    rw [if_pos rfl, Bool.and_eq_true, decide_eq_true_eq] at k7
    obtain ⟨k7, k8⟩ := k7
    have hws : wsOf (y, cb, mL, ret, n, (f2, mc, ms, l2), 4, hh, sp) = Jvm.Cond.codeWith y cb mL ret hh :: GW := rfl
    rw [hws]
    refine vx_ofWH (k2 ▸ k1) rfl fun p e s m args below meth c s₁ B hml hP => ?_
    have hts0 := atoms_spec (ws := Jvm.Cond.codeWith y cb mL ret hh :: GW) B.pre
    have htab := vx_table (x := y) B (hts0 _ List.mem_cons_self)
    refine body _ p e s m args below meth c s₁ (fun w hw => List.mem_cons_of_mem _ hw) B hml (fun he => ?_) (fun he => ?_) ?_ hP
    · subst he
      cases hh with
      | nil => intro x hx; rw [htab] at hx; simp [tableOf] at hx
      | cons q r => cases k7
    · exact absurd he k8
    · obtain ⟨rfl, -, hK⟩ := hP
      intro i h pc H locs ls rest ce sl q cell hi hc hcell hv hcl kk
      exact cat_go (k2 ▸ findClass_of_methodNamed B.named) (fun w hw => hts0 w (List.mem_cons_of_mem _ hw)) hK hi hcell hv hcl kk hn hh [] k7 hc htab (fun z hz => nomatch hz)
  · rw [if_neg hm4] at k7
    have hhn : hn = [] := List.isEmpty_iff.mp k7
    have hws : wsOf (y, cb, mL, ret, n, (f2, mc, ms, l2), mode, hh, sp) = Jvm.Cond.code y cb mL ret :: GW := by
      dsimp only [wsOf]
      rw [if_neg hm4]
    rw [hws]
    refine vx_ofW (k2 ▸ k1) rfl fun p e s m args below meth c s₁ B hml ht hP => ?_
    refine body _ p e s m args below meth c s₁ (fun w hw => List.mem_cons_of_mem _ hw) B hml (fun _ => ht) (fun _ => ht) (fun i h pc H locs ls rest ce sl q cell _ hc => ?_) hP
    subst hhn
    cases hc
end
section
/-! each method's rows: what its bytes hold, and where the words that it leans on stand (by program) -/
def co_X0_init : List Ent := [(0, (.aload_n 0), 1, []), (1, (.invokespecial 1), 3, [0, 1, 149, 1, 27, 1, 28]), (4, (.aload_n 0), 1, []), (5, (.bipush 24), 2, []), (7, (.newarray .int), 2, [4, 24, 1, 52]), (9, (.putfield 9), 3, [0, 1, 1, 152, 28, 27]), (12, (.aload_n 0), 1, []), (13, (.bipush 24), 2, []), (15, (.newarray .int), 2, [4, 24, 1, 52]), (17, (.putfield 13), 3, [0, 2, 1, 154, 10, 28]), (20, .return_, 1, [])]
def co_X0_copyFrom : List Ent := [(0, (.aload_n 0), 1, []), (1, (.aload_n 1), 1, []), (2, (.getfield 16), 3, [0, 0, 1, 150]), (5, (.putfield 16), 3, [0, 0, 1, 150]), (8, (.aload_n 1), 1, []), (9, (.getfield 9), 3, [0, 1, 1, 152]), (12, (.iconst 0), 1, []), (13, (.aload_n 0), 1, []), (14, (.getfield 9), 3, [0, 1, 1, 152]), (17, (.iconst 0), 1, []), (18, (.bipush 24), 2, []), (20, (.invokestatic 20), 3, [0, 3, 45, 3, 17, 3, 16, 1, 16]), (23, (.aload_n 1), 1, []), (24, (.getfield 13), 3, [0, 2, 1, 154]), (27, (.iconst 0), 1, []), (28, (.aload_n 0), 1, []), (29, (.getfield 13), 3, [0, 2, 1, 154]), (32, (.iconst 0), 1, []), (33, (.bipush 24), 2, []), (35, (.invokestatic 20), 3, [0, 3, 45, 3, 17, 3, 16, 1, 16]), (38, .return_, 1, [])]
def co_X0_add : List Ent := [(0, (.aload_n 0), 1, []), (1, (.getfield 16), 3, [0, 0, 1, 150]), (4, (.bipush 24), 2, []), (6, (.if_icmp .ge 33), 3, [39]), (9, (.aload_n 0), 1, []), (10, (.getfield 9), 3, [0, 1, 1, 152]), (13, (.aload_n 0), 1, []), (14, (.getfield 16), 3, [0, 0, 1, 150]), (17, (.iload_n 1), 1, []), (18, .iastore, 1, []), (19, (.aload_n 0), 1, []), (20, (.getfield 13), 3, [0, 2, 1, 154]), (23, (.aload_n 0), 1, []), (24, (.getfield 16), 3, [0, 0, 1, 150]), (27, (.iload_n 2), 1, []), (28, .iastore, 1, []), (29, (.aload_n 0), 1, []), (30, .dup, 1, []), (31, (.getfield 16), 3, [0, 0, 1, 150]), (34, (.iconst 1), 1, []), (35, .iadd, 1, []), (36, (.putfield 16), 3, [0, 0, 1, 150]), (39, .return_, 1, [])]
def co_X0_removeArrived : List Ent := [(0, (.iconst 0), 1, []), (1, (.istore_n 2), 1, []), (2, (.iconst 0), 1, []), (3, (.istore_n 3), 1, []), (4, (.iload_n 3), 1, []), (5, (.aload_n 0), 1, []), (6, (.getfield 16), 3, [0, 0, 1, 150]), (9, (.if_icmp .ge 46), 3, [55]), (12, (.aload_n 0), 1, []), (13, (.getfield 13), 3, [0, 2, 1, 154]), (16, (.iload_n 3), 1, []), (17, .iaload, 1, []), (18, (.iload_n 1), 1, []), (19, (.if_icmp .eq 30), 3, [49]), (22, (.aload_n 0), 1, []), (23, (.getfield 9), 3, [0, 1, 1, 152]), (26, (.iload_n 2), 1, []), (27, (.aload_n 0), 1, []), (28, (.getfield 9), 3, [0, 1, 1, 152]), (31, (.iload_n 3), 1, []), (32, .iaload, 1, []), (33, .iastore, 1, []), (34, (.aload_n 0), 1, []), (35, (.getfield 13), 3, [0, 2, 1, 154]), (38, (.iload_n 2), 1, []), (39, (.aload_n 0), 1, []), (40, (.getfield 13), 3, [0, 2, 1, 154]), (43, (.iload_n 3), 1, []), (44, .iaload, 1, []), (45, .iastore, 1, []), (46, (.iinc 2 1), 3, []), (49, (.iinc 3 1), 3, []), (52, (.goto (-48)), 3, [4]), (55, (.aload_n 0), 1, []), (56, (.iload_n 2), 1, []), (57, (.putfield 16), 3, [0, 0, 1, 150]), (60, .return_, 1, [])]
def co_X1_init : List Ent := [(0, (.aload_n 0), 1, []), (1, (.invokespecial 3), 3, [0, 1, 59, 1, 27, 1, 28]), (4, (.aload_n 0), 1, []), (5, (.bipush 9), 2, []), (7, (.newarray .int), 2, [2, 9, 1, 52]), (9, (.putfield 9), 3, [1, 7, 1, 178, 36, 35]), (12, (.aload_n 0), 1, []), (13, (.bipush 16), 2, []), (15, (.newarray .int), 2, [1, 16, 1, 52]), (17, (.putfield 15), 3, [1, 8, 1, 180, 37, 36]), (20, (.aload_n 0), 1, []), (21, (.bipush 16), 2, []), (23, (.newarray .int), 2, [1, 16, 1, 52]), (25, (.putfield 18), 3, [1, 9, 1, 181, 38, 37]), (28, (.aload_n 0), 1, []), (29, (.bipush 16), 2, []), (31, (.newarray .int), 2, [1, 16, 1, 52]), (33, (.putfield 21), 3, [1, 10, 1, 182, 39, 38]), (36, (.aload_n 0), 1, []), (37, (.new 24), 3, [1, 24, 3, 1, 60, 1, 61, 1, 5]), (40, .dup, 1, []), (41, (.invokespecial 26), 3, [1, 9, 0, 0, 1, 63, 1, 5, 1, 64]), (44, (.putfield 27), 3, [1, 11, 1, 183, 40, 39]), (47, (.aload_n 0), 1, []), (48, (.new 31), 3, [1, 34, 2, 1, 76, 1, 77, 1, 6]), (51, .dup, 1, []), (52, (.invokespecial 33), 3, [1, 13, 1, 78, 1, 79, 1, 6, 1, 80]), (55, (.putfield 34), 3, [1, 12, 1, 185, 41, 40]), (58, (.aload_n 0), 1, []), (59, (.new 31), 3, [1, 34, 2, 1, 76, 1, 77, 1, 6]), (62, .dup, 1, []), (63, (.invokespecial 33), 3, [1, 13, 1, 78, 1, 79, 1, 6, 1, 80]), (66, (.putfield 38), 3, [1, 13, 1, 187, 42, 41]), (69, (.aload_n 0), 1, []), (70, (.new 41), 3, [1, 27, 3, 1, 144, 1, 145, 1, 8]), (73, .dup, 1, []), (74, (.invokespecial 43), 3, [1, 10, 2, 0, 1, 147, 1, 8, 1, 148]), (77, (.putfield 44), 3, [1, 14, 1, 188, 43, 42]), (80, (.aload_n 0), 1, []), (81, (.bipush 16), 2, []), (83, (.newarray .int), 2, [1, 16, 1, 52]), (85, (.putfield 48), 3, [1, 15, 1, 189, 14, 43]), (88, (.iconst 0), 1, []), (89, (.istore_n 1), 1, []), (90, (.iload_n 1), 1, []), (91, (.bipush 16), 2, []), (93, (.if_icmp .ge 16), 3, [109]), (96, (.aload_n 0), 1, []), (97, (.getfield 21), 3, [1, 10, 1, 182]), (100, (.iload_n 1), 1, []), (101, (.iconst (-1)), 1, []), (102, .iastore, 1, []), (103, (.iinc 1 1), 3, []), (106, (.goto (-16)), 3, [90]), (109, .return_, 1, [])]
def co_X1_copyFrom : List Ent := [(0, (.aload_n 0), 1, []), (1, (.aload_n 1), 1, []), (2, (.getfield 51), 3, [1, 0, 1, 163]), (5, (.putfield 51), 3, [1, 0, 1, 163]), (8, (.aload_n 0), 1, []), (9, (.aload_n 1), 1, []), (10, (.getfield 55), 3, [1, 1, 1, 166]), (13, (.aload_n 1), 1, []), (14, (.getfield 59), 3, [1, 2, 1, 168]), (17, (.aload_n 1), 1, []), (18, (.getfield 62), 3, [1, 3, 1, 170]), (21, (.invokevirtual 65), 3, [3, 22, 3, 23, 1, 4, 3, 25, 3, 24]), (24, (.aload_n 0), 1, []), (25, (.aload_n 1), 1, []), (26, (.getfield 69), 3, [1, 4, 1, 172]), (29, (.putfield 69), 3, [1, 4, 1, 172]), (32, (.aload_n 0), 1, []), (33, (.aload_n 1), 1, []), (34, (.getfield 72), 3, [1, 5, 1, 174]), (37, (.putfield 72), 3, [1, 5, 1, 174]), (40, (.aload_n 0), 1, []), (41, (.aload_n 1), 1, []), (42, (.getfield 75), 3, [1, 6, 1, 176]), (45, (.putfield 75), 3, [1, 6, 1, 176]), (48, (.aload_n 1), 1, []), (49, (.getfield 9), 3, [1, 7, 1, 178]), (52, (.iconst 0), 1, []), (53, (.aload_n 0), 1, []), (54, (.getfield 9), 3, [1, 7, 1, 178]), (57, (.iconst 0), 1, []), (58, (.bipush 9), 2, []), (60, (.invokestatic 78), 3, [0, 3, 26, 3, 17, 3, 16, 1, 16]), (63, (.aload_n 1), 1, []), (64, (.getfield 15), 3, [1, 8, 1, 180]), (67, (.iconst 0), 1, []), (68, (.aload_n 0), 1, []), (69, (.getfield 15), 3, [1, 8, 1, 180]), (72, (.iconst 0), 1, []), (73, (.bipush 16), 2, []), (75, (.invokestatic 78), 3, [0, 3, 26, 3, 17, 3, 16, 1, 16]), (78, (.aload_n 1), 1, []), (79, (.getfield 18), 3, [1, 9, 1, 181]), (82, (.iconst 0), 1, []), (83, (.aload_n 0), 1, []), (84, (.getfield 18), 3, [1, 9, 1, 181]), (87, (.iconst 0), 1, []), (88, (.bipush 16), 2, []), (90, (.invokestatic 78), 3, [0, 3, 26, 3, 17, 3, 16, 1, 16]), (93, (.aload_n 1), 1, []), (94, (.getfield 21), 3, [1, 10, 1, 182]), (97, (.iconst 0), 1, []), (98, (.aload_n 0), 1, []), (99, (.getfield 21), 3, [1, 10, 1, 182]), (102, (.iconst 0), 1, []), (103, (.bipush 16), 2, []), (105, (.invokestatic 78), 3, [0, 3, 26, 3, 17, 3, 16, 1, 16]), (108, (.aload_n 0), 1, []), (109, (.getfield 27), 3, [1, 11, 1, 183]), (112, (.aload_n 1), 1, []), (113, (.getfield 27), 3, [1, 11, 1, 183]), (116, (.invokevirtual 84), 3, [3, 27, 3, 28, 1, 5, 3, 30, 3, 29]), (119, (.aload_n 0), 1, []), (120, (.getfield 34), 3, [1, 12, 1, 185]), (123, (.aload_n 1), 1, []), (124, (.getfield 34), 3, [1, 12, 1, 185]), (127, (.invokevirtual 88), 3, [3, 32, 3, 33, 1, 6, 3, 35, 3, 34]), (130, (.aload_n 0), 1, []), (131, (.getfield 38), 3, [1, 13, 1, 187]), (134, (.aload_n 1), 1, []), (135, (.getfield 38), 3, [1, 13, 1, 187]), (138, (.invokevirtual 88), 3, [3, 32, 3, 33, 1, 6, 3, 35, 3, 34]), (141, (.aload_n 0), 1, []), (142, (.getfield 44), 3, [1, 14, 1, 188]), (145, (.aload_n 1), 1, []), (146, (.getfield 44), 3, [1, 14, 1, 188]), (149, (.invokevirtual 91), 3, [3, 41, 3, 42, 1, 8, 3, 44, 3, 43]), (152, .return_, 1, [])]
def co_X1_reset : List Ent := [(0, (.aload_n 0), 1, []), (1, (.iconst 0), 1, []), (2, (.putfield 51), 3, [1, 0, 1, 163]), (5, (.aload_n 0), 1, []), (6, (.iconst 0), 1, []), (7, (.iconst 0), 1, []), (8, (.iconst 0), 1, []), (9, (.invokevirtual 65), 3, [3, 22, 3, 23, 1, 4, 3, 25, 3, 24]), (12, (.aload_n 0), 1, []), (13, (.iconst 0), 1, []), (14, (.putfield 69), 3, [1, 4, 1, 172]), (17, (.aload_n 0), 1, []), (18, (.iconst 0), 1, []), (19, (.putfield 72), 3, [1, 5, 1, 174]), (22, (.aload_n 0), 1, []), (23, (.iconst 0), 1, []), (24, (.putfield 75), 3, [1, 6, 1, 176]), (27, (.iconst 0), 1, []), (28, (.istore_n 1), 1, []), (29, (.iload_n 1), 1, []), (30, (.bipush 8), 2, []), (32, (.if_icmp .gt 16), 3, [48]), (35, (.aload_n 0), 1, []), (36, (.getfield 9), 3, [1, 7, 1, 178]), (39, (.iload_n 1), 1, []), (40, (.iconst 0), 1, []), (41, .iastore, 1, []), (42, (.iinc 1 1), 3, []), (45, (.goto (-16)), 3, [29]), (48, (.iconst 0), 1, []), (49, (.istore_n 1), 1, []), (50, (.iload_n 1), 1, []), (51, (.bipush 16), 2, []), (53, (.if_icmp .ge 30), 3, [83]), (56, (.aload_n 0), 1, []), (57, (.getfield 15), 3, [1, 8, 1, 180]), (60, (.iload_n 1), 1, []), (61, (.iconst 0), 1, []), (62, .iastore, 1, []), (63, (.aload_n 0), 1, []), (64, (.getfield 18), 3, [1, 9, 1, 181]), (67, (.iload_n 1), 1, []), (68, (.iconst 0), 1, []), (69, .iastore, 1, []), (70, (.aload_n 0), 1, []), (71, (.getfield 21), 3, [1, 10, 1, 182]), (74, (.iload_n 1), 1, []), (75, (.iconst (-1)), 1, []), (76, .iastore, 1, []), (77, (.iinc 1 1), 3, []), (80, (.goto (-30)), 3, [50]), (83, (.aload_n 0), 1, []), (84, (.getfield 27), 3, [1, 11, 1, 183]), (87, (.invokevirtual 94), 3, [3, 132, 3, 133, 1, 5, 3, 135, 3, 134]), (90, (.aload_n 0), 1, []), (91, (.getfield 34), 3, [1, 12, 1, 185]), (94, (.iconst 0), 1, []), (95, (.putfield 97), 3, [4, 0, 1, 134]), (98, (.aload_n 0), 1, []), (99, (.getfield 38), 3, [1, 13, 1, 187]), (102, (.iconst 0), 1, []), (103, (.putfield 97), 3, [4, 0, 1, 134]), (106, (.aload_n 0), 1, []), (107, (.getfield 44), 3, [1, 14, 1, 188]), (110, (.iconst 0), 1, []), (111, (.putfield 100), 3, [0, 0, 1, 151]), (114, .return_, 1, [])]
def co_X1_turnTo : List Ent := [(0, (.aload_n 0), 1, []), (1, (.iload_n 1), 1, []), (2, (.putfield 55), 3, [1, 1, 1, 166]), (5, (.aload_n 0), 1, []), (6, (.iload_n 2), 1, []), (7, (.putfield 59), 3, [1, 2, 1, 168]), (10, (.aload_n 0), 1, []), (11, (.iload_n 3), 1, []), (12, (.putfield 62), 3, [1, 3, 1, 170]), (15, .return_, 1, [])]
def co_X1_distance : List Ent := [(0, (.aload_n 1), 1, []), (1, (.getfield 101), 3, [2, 0, 1, 42]), (4, (.iload_n 2), 1, []), (5, .iaload, 1, []), (6, (.istore_n 3), 1, []), (7, (.iload_n 3), 1, []), (8, (.iconst (-1)), 1, []), (9, (.if_icmp .ne 5), 3, [14]), (12, (.iconst (-1)), 1, []), (13, .ireturn, 1, []), (14, (.iload_n 3), 1, []), (15, (.iconst 0), 1, []), (16, (.invokestatic 108), 3, [1, 2, 69, 2, 47, 1, 17, 2, 48]), (19, (.aload_n 0), 1, []), (20, (.getfield 55), 3, [1, 1, 1, 166]), (23, .isub, 1, []), (24, (.invokestatic 112), 3, [2, 2, 70, 2, 71, 1, 19, 2, 72]), (27, (.istore 4), 2, []), (29, (.iload_n 3), 1, []), (30, (.iconst 1), 1, []), (31, (.invokestatic 108), 3, [1, 2, 69, 2, 47, 1, 17, 2, 48]), (34, (.aload_n 0), 1, []), (35, (.getfield 59), 3, [1, 2, 1, 168]), (38, .isub, 1, []), (39, (.invokestatic 112), 3, [2, 2, 70, 2, 71, 1, 19, 2, 72]), (42, (.istore 5), 2, []), (44, (.iload 4), 2, []), (46, (.iload 5), 2, []), (48, (.invokestatic 118), 3, [3, 2, 73, 2, 74, 1, 19, 2, 75]), (51, .ireturn, 1, [])]
def co_X1_reaches : List Ent := [(0, (.iload_n 1), 1, []), (1, (.iconst (-1)), 1, []), (2, (.if_icmp .eq 15), 3, [17]), (5, (.iload_n 1), 1, []), (6, (.aload_n 0), 1, []), (7, (.getfield 62), 3, [1, 3, 1, 170]), (10, (.if_icmp .gt 7), 3, [17]), (13, (.iconst 1), 1, []), (14, (.goto 4), 3, [18]), (17, (.iconst 0), 1, []), (18, .ireturn, 1, [])]
def co_X1_entitiesInArea : List Ent := [(0, (.iconst 0), 1, []), (1, (.istore_n 2), 1, []), (2, (.iconst 0), 1, []), (3, (.istore_n 3), 1, []), (4, (.iload_n 3), 1, []), (5, (.bipush 16), 2, []), (7, (.if_icmp .ge 30), 3, [37]), (10, (.iload_n 2), 1, []), (11, (.aload_n 0), 1, []), (12, (.aload_n 0), 1, []), (13, (.aload_n 1), 1, []), (14, (.iload_n 3), 1, []), (15, (.invokevirtual 121), 3, [2, 65, 2, 66, 1, 4, 2, 68, 2, 67]), (18, (.invokevirtual 125), 3, [2, 76, 2, 77, 1, 4, 2, 79, 2, 78]), (21, (.ifCond .eq 7), 3, [28]), (24, (.iconst 1), 1, []), (25, (.goto 4), 3, [29]), (28, (.iconst 0), 1, []), (29, .iadd, 1, []), (30, (.istore_n 2), 1, []), (31, (.iinc 3 1), 3, []), (34, (.goto (-30)), 3, [4]), (37, (.iload_n 2), 1, []), (38, .ireturn, 1, [])]
def co_X1_staleCopies : List Ent := [(0, (.iconst 0), 1, []), (1, (.istore_n 2), 1, []), (2, (.iconst 0), 1, []), (3, (.istore_n 3), 1, []), (4, (.iload_n 3), 1, []), (5, (.bipush 16), 2, []), (7, (.if_icmp .ge 55), 3, [62]), (10, (.aload_n 0), 1, []), (11, (.aload_n 0), 1, []), (12, (.aload_n 1), 1, []), (13, (.iload_n 3), 1, []), (14, (.invokevirtual 121), 3, [2, 65, 2, 66, 1, 4, 2, 68, 2, 67]), (17, (.invokevirtual 125), 3, [2, 76, 2, 77, 1, 4, 2, 79, 2, 78]), (20, (.ifCond .eq 12), 3, [32]), (23, (.aload_n 1), 1, []), (24, (.getfield 101), 3, [2, 0, 1, 42]), (27, (.iload_n 3), 1, []), (28, .iaload, 1, []), (29, (.goto 4), 3, [33]), (32, (.iconst (-1)), 1, []), (33, (.istore 4), 2, []), (35, (.iload_n 2), 1, []), (36, (.aload_n 0), 1, []), (37, (.getfield 27), 3, [1, 11, 1, 183]), (40, (.iload_n 3), 1, []), (41, (.invokevirtual 129), 3, [2, 80, 2, 81, 1, 5, 2, 83, 2, 82]), (44, (.iload 4), 2, []), (46, (.if_icmp .eq 7), 3, [53]), (49, (.iconst 1), 1, []), (50, (.goto 4), 3, [54]), (53, (.iconst 0), 1, []), (54, .iadd, 1, []), (55, (.istore_n 2), 1, []), (56, (.iinc 3 1), 3, []), (59, (.goto (-55)), 3, [4]), (62, (.iload_n 2), 1, []), (63, .ireturn, 1, [])]
def co_X1_entryKind : List Ent := [(0, (.aload_n 0), 1, []), (1, (.getfield 21), 3, [1, 10, 1, 182]), (4, (.iload_n 2), 1, []), (5, .iaload, 1, []), (6, (.iconst (-1)), 1, []), (7, (.if_icmp .eq 7), 3, [14]), (10, (.iconst 1), 1, []), (11, (.goto 4), 3, [15]), (14, (.iconst 0), 1, []), (15, (.istore_n 3), 1, []), (16, (.aload_n 0), 1, []), (17, (.aload_n 0), 1, []), (18, (.aload_n 1), 1, []), (19, (.iload_n 2), 1, []), (20, (.invokevirtual 121), 3, [2, 65, 2, 66, 1, 4, 2, 68, 2, 67]), (23, (.invokevirtual 125), 3, [2, 76, 2, 77, 1, 4, 2, 79, 2, 78]), (26, (.ifCond .ne 13), 3, [39]), (29, (.iload_n 3), 1, []), (30, (.ifCond .eq 7), 3, [37]), (33, (.iconst 0), 1, []), (34, (.goto 4), 3, [38]), (37, (.iconst (-1)), 1, []), (38, .ireturn, 1, []), (39, (.iload_n 3), 1, []), (40, (.ifCond .ne 5), 3, [45]), (43, (.iconst 1), 1, []), (44, .ireturn, 1, []), (45, (.aload_n 0), 1, []), (46, (.getfield 21), 3, [1, 10, 1, 182]), (49, (.iload_n 2), 1, []), (50, .iaload, 1, []), (51, (.aload_n 1), 1, []), (52, (.getfield 101), 3, [2, 0, 1, 42]), (55, (.iload_n 2), 1, []), (56, .iaload, 1, []), (57, (.if_icmp .ne 7), 3, [64]), (60, (.iconst (-1)), 1, []), (61, (.goto 4), 3, [65]), (64, (.iconst 2), 1, []), (65, .ireturn, 1, [])]
def co_X1_entryMask : List Ent := [(0, (.iload_n 3), 1, []), (1, (.iconst 1), 1, []), (2, (.if_icmp .ne 6), 3, [8]), (5, (.bipush 15), 2, []), (7, .ireturn, 1, []), (8, (.iload_n 3), 1, []), (9, (.iconst 2), 1, []), (10, (.if_icmp .ne 21), 3, [31]), (13, (.aload_n 0), 1, []), (14, (.getfield 21), 3, [1, 10, 1, 182]), (17, (.iload_n 2), 1, []), (18, .iaload, 1, []), (19, (.aload_n 1), 1, []), (20, (.getfield 101), 3, [2, 0, 1, 42]), (23, (.iload_n 2), 1, []), (24, .iaload, 1, []), (25, (.invokestatic 132), 3, [1, 2, 114, 2, 115, 1, 17, 2, 116]), (28, (.goto 4), 3, [32]), (31, (.iconst 0), 1, []), (32, .ireturn, 1, [])]
def co_X1_entryBytes : List Ent := [(0, (.aload_n 0), 1, []), (1, (.aload_n 1), 1, []), (2, (.iload_n 2), 1, []), (3, (.invokevirtual 135), 3, [2, 106, 2, 107, 1, 4, 2, 109, 2, 108]), (6, (.istore_n 3), 1, []), (7, (.iload_n 3), 1, []), (8, (.iconst (-1)), 1, []), (9, (.if_icmp .ne 7), 3, [16]), (12, (.iconst 0), 1, []), (13, (.goto 14), 3, [27]), (16, (.iload_n 3), 1, []), (17, (.aload_n 0), 1, []), (18, (.aload_n 1), 1, []), (19, (.iload_n 2), 1, []), (20, (.iload_n 3), 1, []), (21, (.invokevirtual 138), 3, [2, 110, 2, 111, 1, 4, 2, 113, 2, 112]), (24, (.invokestatic 142), 3, [1, 2, 118, 2, 119, 1, 7, 2, 120]), (27, .ireturn, 1, [])]
def co_X1_giveUpOldPackets : List Ent := [(0, (.aload_n 0), 1, []), (1, (.getfield 34), 3, [1, 12, 1, 185]), (4, (.getfield 97), 3, [4, 0, 1, 134]), (7, (.iconst 1), 1, []), (8, .isub, 1, []), (9, (.istore_n 3), 1, []), (10, (.iload_n 3), 1, []), (11, (.ifCond .lt 46), 3, [57]), (14, (.iload_n 1), 1, []), (15, (.aload_n 0), 1, []), (16, (.getfield 34), 3, [1, 12, 1, 185]), (19, (.getfield 147), 3, [4, 1, 1, 137]), (22, (.iload_n 3), 1, []), (23, .aaload, 1, []), (24, (.getfield 151), 3, [3, 3, 1, 98]), (27, .isub, 1, []), (28, (.iload_n 2), 1, []), (29, (.if_icmp .lt 22), 3, [51]), (32, (.aload_n 0), 1, []), (33, (.getfield 34), 3, [1, 12, 1, 185]), (36, (.iload_n 3), 1, []), (37, (.invokevirtual 154), 3, [4, 26, 3, 239, 1, 6, 4, 1, 4, 0]), (40, (.aload_n 0), 1, []), (41, (.getfield 9), 3, [1, 7, 1, 178]), (44, (.bipush 7), 2, []), (46, .dup2, 1, []), (47, .iaload, 1, []), (48, (.iconst 1), 1, []), (49, .iadd, 1, []), (50, .iastore, 1, []), (51, (.iinc 3 (-1)), 3, []), (54, (.goto (-44)), 3, [10]), (57, .return_, 1, [])]
def co_X1_raisePriorities : List Ent := [(0, (.iconst 0), 1, []), (1, (.istore_n 2), 1, []), (2, (.iload_n 2), 1, []), (3, (.bipush 16), 2, []), (5, (.if_icmp .ge 84), 3, [89]), (8, (.aload_n 0), 1, []), (9, (.aload_n 1), 1, []), (10, (.iload_n 2), 1, []), (11, (.invokevirtual 135), 3, [2, 106, 2, 107, 1, 4, 2, 109, 2, 108]), (14, (.istore_n 3), 1, []), (15, (.iload_n 3), 1, []), (16, (.iconst (-1)), 1, []), (17, (.if_icmp .ne 13), 3, [30]), (20, (.aload_n 0), 1, []), (21, (.getfield 15), 3, [1, 8, 1, 180]), (24, (.iload_n 2), 1, []), (25, (.iconst 0), 1, []), (26, .iastore, 1, []), (27, (.goto 56), 3, [83]), (30, (.iload_n 3), 1, []), (31, (.ifCond .ne 17), 3, [48]), (34, (.aload_n 0), 1, []), (35, (.getfield 15), 3, [1, 8, 1, 180]), (38, (.iload_n 2), 1, []), (39, .dup2, 1, []), (40, .iaload, 1, []), (41, (.bipush 100), 2, []), (43, .iadd, 1, []), (44, .iastore, 1, []), (45, (.goto 38), 3, [83]), (48, (.iconst 1), 1, []), (49, (.aload_n 1), 1, []), (50, (.getfield 101), 3, [2, 0, 1, 42]), (53, (.iload_n 2), 1, []), (54, .iaload, 1, []), (55, (.iconst 2), 1, []), (56, (.invokestatic 108), 3, [1, 2, 69, 2, 47, 1, 17, 2, 48]), (59, .ishl, 1, []), (60, (.istore 4), 2, []), (62, (.aload_n 0), 1, []), (63, (.getfield 15), 3, [1, 8, 1, 180]), (66, (.iload_n 2), 1, []), (67, .dup2, 1, []), (68, .iaload, 1, []), (69, (.iload 4), 2, []), (71, (.bipush 32), 2, []), (73, (.aload_n 0), 1, []), (74, (.aload_n 1), 1, []), (75, (.iload_n 2), 1, []), (76, (.invokevirtual 121), 3, [2, 65, 2, 66, 1, 4, 2, 68, 2, 67]), (79, .isub, 1, []), (80, .imul, 1, []), (81, .iadd, 1, []), (82, .iastore, 1, []), (83, (.iinc 2 1), 3, []), (86, (.goto (-84)), 3, [2]), (89, .return_, 1, [])]
def co_X1_orderByPriority : List Ent := [(0, (.iconst 0), 1, []), (1, (.istore_n 1), 1, []), (2, (.iconst 0), 1, []), (3, (.istore_n 2), 1, []), (4, (.iload_n 2), 1, []), (5, (.bipush 16), 2, []), (7, (.if_icmp .ge 76), 3, [83]), (10, (.aload_n 0), 1, []), (11, (.getfield 15), 3, [1, 8, 1, 180]), (14, (.iload_n 2), 1, []), (15, .iaload, 1, []), (16, (.ifCond .le 61), 3, [77]), (19, (.iload_n 1), 1, []), (20, (.istore_n 3), 1, []), (21, (.iload_n 3), 1, []), (22, (.ifCond .le 45), 3, [67]), (25, (.aload_n 0), 1, []), (26, (.getfield 15), 3, [1, 8, 1, 180]), (29, (.aload_n 0), 1, []), (30, (.getfield 48), 3, [1, 15, 1, 189]), (33, (.iload_n 3), 1, []), (34, (.iconst 1), 1, []), (35, .isub, 1, []), (36, .iaload, 1, []), (37, .iaload, 1, []), (38, (.aload_n 0), 1, []), (39, (.getfield 15), 3, [1, 8, 1, 180]), (42, (.iload_n 2), 1, []), (43, .iaload, 1, []), (44, (.if_icmp .ge 23), 3, [67]), (47, (.aload_n 0), 1, []), (48, (.getfield 48), 3, [1, 15, 1, 189]), (51, (.iload_n 3), 1, []), (52, (.aload_n 0), 1, []), (53, (.getfield 48), 3, [1, 15, 1, 189]), (56, (.iload_n 3), 1, []), (57, (.iconst 1), 1, []), (58, .isub, 1, []), (59, .iaload, 1, []), (60, .iastore, 1, []), (61, (.iinc 3 (-1)), 3, []), (64, (.goto (-43)), 3, [21]), (67, (.aload_n 0), 1, []), (68, (.getfield 48), 3, [1, 15, 1, 189]), (71, (.iload_n 3), 1, []), (72, (.iload_n 2), 1, []), (73, .iastore, 1, []), (74, (.iinc 1 1), 3, []), (77, (.iinc 2 1), 3, []), (80, (.goto (-76)), 3, [4]), (83, (.iload_n 1), 1, []), (84, .ireturn, 1, [])]
def co_X1_sendPacket : List Ent := [(0, (.aload_n 0), 1, []), (1, (.getfield 34), 3, [1, 12, 1, 185]), (4, (.invokevirtual 158), 3, [4, 35, 4, 36, 1, 6, 4, 38, 4, 37]), (7, (.ifCond .eq 4), 3, [11]), (10, .return_, 1, []), (11, (.aload_n 0), 1, []), (12, (.getfield 34), 3, [1, 12, 1, 185]), (15, (.getfield 147), 3, [4, 1, 1, 137]), (18, (.aload_n 0), 1, []), (19, (.getfield 34), 3, [1, 12, 1, 185]), (22, (.getfield 97), 3, [4, 0, 1, 134]), (25, .aaload, 1, []), (26, (.astore 4), 2, []), (28, (.aload 4), 2, []), (30, (.aload_n 0), 1, []), (31, (.getfield 9), 3, [1, 7, 1, 178]), (34, (.iconst 0), 1, []), (35, .iaload, 1, []), (36, (.iconst 1), 1, []), (37, .iadd, 1, []), (38, (.iload_n 2), 1, []), (39, (.iload_n 2), 1, []), (40, (.iload_n 3), 1, []), (41, .iadd, 1, []), (42, (.invokevirtual 162), 3, [4, 39, 4, 40, 1, 7, 4, 42, 4, 41]), (45, (.aload_n 0), 1, []), (46, (.invokevirtual 165), 3, [4, 43, 4, 45, 1, 4, 4, 46, 0, 13]), (49, (.istore 5), 2, []), (51, (.iconst 0), 1, []), (52, (.istore 6), 2, []), (54, (.iload 6), 2, []), (56, (.iload 5), 2, []), (58, (.if_icmp .ge 23), 3, [81]), (61, (.aload_n 0), 1, []), (62, (.aload 4), 2, []), (64, (.aload_n 1), 1, []), (65, (.aload_n 0), 1, []), (66, (.getfield 48), 3, [1, 15, 1, 189]), (69, (.iload 6), 2, []), (71, .iaload, 1, []), (72, (.invokevirtual 169), 3, [4, 47, 4, 49, 1, 4, 4, 50, 0, 14]), (75, (.iinc 6 1), 3, []), (78, (.goto (-24)), 3, [54]), (81, (.aload 4), 2, []), (83, (.getfield 173), 3, [3, 2, 1, 95]), (86, (.ifCond .ne 4), 3, [90]), (89, .return_, 1, []), (90, (.aload_n 0), 1, []), (91, (.getfield 34), 3, [1, 12, 1, 185]), (94, .dup, 1, []), (95, (.getfield 97), 3, [4, 0, 1, 134]), (98, (.iconst 1), 1, []), (99, .iadd, 1, []), (100, (.putfield 97), 3, [4, 0, 1, 134]), (103, (.aload_n 0), 1, []), (104, (.getfield 9), 3, [1, 7, 1, 178]), (107, (.iconst 0), 1, []), (108, .dup2, 1, []), (109, .iaload, 1, []), (110, (.iconst 1), 1, []), (111, .iadd, 1, []), (112, .iastore, 1, []), (113, (.aload_n 0), 1, []), (114, (.getfield 9), 3, [1, 7, 1, 178]), (117, (.iconst 1), 1, []), (118, .dup2, 1, []), (119, .iaload, 1, []), (120, (.aload 4), 2, []), (122, (.getfield 176), 3, [3, 1, 1, 93]), (125, .iadd, 1, []), (126, .iastore, 1, []), (127, (.aload_n 0), 1, []), (128, (.getfield 9), 3, [1, 7, 1, 178]), (131, (.bipush 8), 2, []), (133, .dup2, 1, []), (134, .iaload, 1, []), (135, (.aload 4), 2, []), (137, (.getfield 173), 3, [3, 2, 1, 95]), (140, .iadd, 1, []), (141, .iastore, 1, []), (142, (.aload_n 0), 1, []), (143, (.getfield 72), 3, [1, 5, 1, 174]), (146, (.ifCond .le 26), 3, [172]), (149, (.aload_n 0), 1, []), (150, .dup, 1, []), (151, (.getfield 72), 3, [1, 5, 1, 174]), (154, (.iconst 1), 1, []), (155, .isub, 1, []), (156, (.putfield 72), 3, [1, 5, 1, 174]), (159, (.aload_n 0), 1, []), (160, (.getfield 9), 3, [1, 7, 1, 178]), (163, (.iconst 2), 1, []), (164, .dup2, 1, []), (165, .iaload, 1, []), (166, (.iconst 1), 1, []), (167, .iadd, 1, []), (168, .iastore, 1, []), (169, (.goto 12), 3, [181]), (172, (.aload_n 0), 1, []), (173, (.getfield 38), 3, [1, 13, 1, 187]), (176, (.aload 4), 2, []), (178, (.invokevirtual 179), 3, [4, 55, 4, 56, 1, 6, 4, 58, 4, 57]), (181, .return_, 1, [])]
def co_X1_offerEntry : List Ent := [(0, (.aload_n 0), 1, []), (1, (.aload_n 2), 1, []), (2, (.iload_n 3), 1, []), (3, (.invokevirtual 135), 3, [2, 106, 2, 107, 1, 4, 2, 109, 2, 108]), (6, (.istore 4), 2, []), (8, (.aload_n 0), 1, []), (9, (.aload_n 2), 1, []), (10, (.iload_n 3), 1, []), (11, (.iload 4), 2, []), (13, (.invokevirtual 138), 3, [2, 110, 2, 111, 1, 4, 2, 113, 2, 112]), (16, (.istore 5), 2, []), (18, (.iload 4), 2, []), (20, (.iconst (-1)), 1, []), (21, (.if_icmp .eq 22), 3, [43]), (24, (.aload_n 1), 1, []), (25, (.getfield 176), 3, [3, 1, 1, 93]), (28, (.iload 4), 2, []), (30, (.iload 5), 2, []), (32, (.invokestatic 142), 3, [1, 2, 118, 2, 119, 1, 7, 2, 120]), (35, .iadd, 1, []), (36, (.aload_n 0), 1, []), (37, (.getfield 69), 3, [1, 4, 1, 172]), (40, (.if_icmp .le 4), 3, [44]), (43, .return_, 1, []), (44, (.iload 4), 2, []), (46, (.iconst 2), 1, []), (47, (.if_icmp .ne 12), 3, [59]), (50, (.aload_n 0), 1, []), (51, (.getfield 18), 3, [1, 9, 1, 181]), (54, (.iload_n 3), 1, []), (55, .iaload, 1, []), (56, (.goto 4), 3, [60]), (59, (.iconst 0), 1, []), (60, (.istore 6), 2, []), (62, (.aload_n 1), 1, []), (63, (.iload 4), 2, []), (65, (.iload_n 3), 1, []), (66, (.iload 6), 2, []), (68, (.iload 5), 2, []), (70, (.iload 4), 2, []), (72, (.ifCond .ne 7), 3, [79]), (75, (.iconst (-1)), 1, []), (76, (.goto 9), 3, [85]), (79, (.aload_n 2), 1, []), (80, (.getfield 101), 3, [2, 0, 1, 42]), (83, (.iload_n 3), 1, []), (84, .iaload, 1, []), (85, (.invokevirtual 183), 3, [4, 51, 4, 52, 1, 7, 4, 54, 4, 53]), (88, (.aload_n 0), 1, []), (89, (.getfield 15), 3, [1, 8, 1, 180]), (92, (.iload_n 3), 1, []), (93, (.iconst 0), 1, []), (94, .iastore, 1, []), (95, .return_, 1, [])]
def co_X1_receivePackets : List Ent := [(0, (.iconst 0), 1, []), (1, (.istore_n 3), 1, []), (2, (.iload_n 3), 1, []), (3, (.aload_n 0), 1, []), (4, (.getfield 38), 3, [1, 13, 1, 187]), (7, (.getfield 97), 3, [4, 0, 1, 134]), (10, (.if_icmp .ge 47), 3, [57]), (13, (.aload_n 0), 1, []), (14, (.getfield 38), 3, [1, 13, 1, 187]), (17, (.getfield 147), 3, [4, 1, 1, 137]), (20, (.iload_n 3), 1, []), (21, .aaload, 1, []), (22, (.astore 4), 2, []), (24, (.aload 4), 2, []), (26, (.getfield 187), 3, [3, 4, 1, 101]), (29, (.iload_n 1), 1, []), (30, (.if_icmp .ne 21), 3, [51]), (33, (.aload_n 0), 1, []), (34, (.aload 4), 2, []), (36, (.invokevirtual 190), 3, [3, 202, 3, 204, 1, 4, 3, 205, 0, 8]), (39, (.aload_n 0), 1, []), (40, (.aload 4), 2, []), (42, (.getfield 193), 3, [3, 0, 1, 91]), (45, (.iload_n 1), 1, []), (46, (.iload_n 2), 1, []), (47, .iadd, 1, []), (48, (.invokevirtual 196), 3, [3, 226, 3, 228, 1, 4, 3, 229, 0, 11]), (51, (.iinc 3 1), 3, []), (54, (.goto (-52)), 3, [2]), (57, (.aload_n 0), 1, []), (58, (.getfield 38), 3, [1, 13, 1, 187]), (61, (.iload_n 1), 1, []), (62, (.invokevirtual 200), 3, [3, 234, 3, 235, 1, 6, 3, 237, 3, 236]), (65, .return_, 1, [])]
def co_X1_receivePacket : List Ent := [(0, (.iconst 0), 1, []), (1, (.istore_n 2), 1, []), (2, (.iload_n 2), 1, []), (3, (.aload_n 1), 1, []), (4, (.getfield 173), 3, [3, 2, 1, 95]), (7, (.if_icmp .ge 35), 3, [42]), (10, (.aload_n 0), 1, []), (11, (.getfield 27), 3, [1, 11, 1, 183]), (14, (.aload_n 1), 1, []), (15, (.getfield 203), 3, [3, 6, 1, 105]), (18, (.iload_n 2), 1, []), (19, .iaload, 1, []), (20, (.invokevirtual 206), 3, [3, 206, 2, 94, 1, 5, 2, 96, 2, 95]), (23, (.aload_n 1), 1, []), (24, (.getfield 193), 3, [3, 0, 1, 91]), (27, (.if_icmp .ge 9), 3, [36]), (30, (.aload_n 0), 1, []), (31, (.aload_n 1), 1, []), (32, (.iload_n 2), 1, []), (33, (.invokevirtual 209), 3, [3, 207, 3, 209, 1, 4, 3, 210, 0, 9]), (36, (.iinc 2 1), 3, []), (39, (.goto (-37)), 3, [2]), (42, .return_, 1, [])]
def co_X1_receiveEntry : List Ent := [(0, (.aload_n 1), 1, []), (1, (.getfield 203), 3, [3, 6, 1, 105]), (4, (.iload_n 2), 1, []), (5, .iaload, 1, []), (6, (.istore_n 3), 1, []), (7, (.aload_n 1), 1, []), (8, (.getfield 213), 3, [3, 9, 1, 111]), (11, (.iload_n 2), 1, []), (12, .iaload, 1, []), (13, (.istore 4), 2, []), (15, (.aload_n 1), 1, []), (16, (.getfield 214), 3, [3, 5, 1, 103]), (19, (.iload_n 2), 1, []), (20, .iaload, 1, []), (21, (.iconst 2), 1, []), (22, (.if_icmp .ne 51), 3, [73]), (25, (.aload_n 0), 1, []), (26, (.getfield 27), 3, [1, 11, 1, 183]), (29, (.iload_n 3), 1, []), (30, (.aload_n 1), 1, []), (31, (.getfield 217), 3, [3, 7, 1, 107]), (34, (.iload_n 2), 1, []), (35, .iaload, 1, []), (36, (.invokevirtual 220), 3, [3, 211, 3, 212, 1, 5, 3, 214, 3, 213]), (39, (.istore 5), 2, []), (41, (.iload 5), 2, []), (43, (.iconst (-1)), 1, []), (44, (.if_icmp .ne 14), 3, [58]), (47, (.aload_n 0), 1, []), (48, (.getfield 9), 3, [1, 7, 1, 178]), (51, (.iconst 5), 1, []), (52, .dup2, 1, []), (53, .iaload, 1, []), (54, (.iconst 1), 1, []), (55, .iadd, 1, []), (56, .iastore, 1, []), (57, .return_, 1, []), (58, (.iload 5), 2, []), (60, (.iload 4), 2, []), (62, (.aload_n 1), 1, []), (63, (.getfield 223), 3, [3, 8, 1, 109]), (66, (.iload_n 2), 1, []), (67, .iaload, 1, []), (68, (.invokestatic 226), 3, [1, 3, 215, 3, 216, 1, 17, 3, 217]), (71, (.istore 4), 2, []), (73, (.aload_n 0), 1, []), (74, (.getfield 27), 3, [1, 11, 1, 183]), (77, (.iload_n 3), 1, []), (78, (.aload_n 1), 1, []), (79, (.getfield 193), 3, [3, 0, 1, 91]), (82, (.iload 4), 2, []), (84, (.invokevirtual 230), 3, [3, 218, 3, 219, 1, 5, 3, 221, 3, 220]), (87, .return_, 1, [])]
def co_X1_sendAck : List Ent := [(0, (.aload_n 0), 1, []), (1, (.getfield 75), 3, [1, 6, 1, 176]), (4, (.ifCond .le 26), 3, [30]), (7, (.aload_n 0), 1, []), (8, .dup, 1, []), (9, (.getfield 75), 3, [1, 6, 1, 176]), (12, (.iconst 1), 1, []), (13, .isub, 1, []), (14, (.putfield 75), 3, [1, 6, 1, 176]), (17, (.aload_n 0), 1, []), (18, (.getfield 9), 3, [1, 7, 1, 178]), (21, (.iconst 3), 1, []), (22, .dup2, 1, []), (23, .iaload, 1, []), (24, (.iconst 1), 1, []), (25, .iadd, 1, []), (26, .iastore, 1, []), (27, (.goto 12), 3, [39]), (30, (.aload_n 0), 1, []), (31, (.getfield 44), 3, [1, 14, 1, 188]), (34, (.iload_n 1), 1, []), (35, (.iload_n 2), 1, []), (36, (.invokevirtual 232), 3, [3, 230, 3, 231, 1, 8, 3, 233, 3, 232]), (39, .return_, 1, [])]
def co_X1_receiveAcks : List Ent := [(0, (.iconst 0), 1, []), (1, (.istore_n 2), 1, []), (2, (.iload_n 2), 1, []), (3, (.aload_n 0), 1, []), (4, (.getfield 44), 3, [1, 14, 1, 188]), (7, (.getfield 100), 3, [0, 0, 1, 151]), (10, (.if_icmp .ge 52), 3, [62]), (13, (.aload_n 0), 1, []), (14, (.getfield 44), 3, [1, 14, 1, 188]), (17, (.getfield 234), 3, [0, 2, 1, 155]), (20, (.iload_n 2), 1, []), (21, .iaload, 1, []), (22, (.iload_n 1), 1, []), (23, (.if_icmp .ne 33), 3, [56]), (26, (.aload_n 0), 1, []), (27, (.getfield 9), 3, [1, 7, 1, 178]), (30, (.iconst 4), 1, []), (31, .dup2, 1, []), (32, .iaload, 1, []), (33, (.iconst 1), 1, []), (34, .iadd, 1, []), (35, .iastore, 1, []), (36, (.aload_n 0), 1, []), (37, (.aload_n 0), 1, []), (38, (.getfield 34), 3, [1, 12, 1, 185]), (41, (.aload_n 0), 1, []), (42, (.getfield 44), 3, [1, 14, 1, 188]), (45, (.getfield 236), 3, [0, 1, 1, 153]), (48, (.iload_n 2), 1, []), (49, .iaload, 1, []), (50, (.invokevirtual 238), 3, [4, 6, 4, 7, 1, 6, 4, 9, 4, 8]), (53, (.invokevirtual 241), 3, [4, 10, 4, 12, 1, 4, 4, 13, 0, 12]), (56, (.iinc 2 1), 3, []), (59, (.goto (-57)), 3, [2]), (62, (.aload_n 0), 1, []), (63, (.getfield 44), 3, [1, 14, 1, 188]), (66, (.iload_n 1), 1, []), (67, (.invokevirtual 244), 3, [4, 18, 4, 19, 1, 8, 4, 21, 4, 20]), (70, .return_, 1, [])]
def co_X1_receiveAck : List Ent := [(0, (.iload_n 1), 1, []), (1, (.ifCond .lt 14), 3, [15]), (4, (.iload_n 1), 1, []), (5, (.aload_n 0), 1, []), (6, (.getfield 34), 3, [1, 12, 1, 185]), (9, (.getfield 97), 3, [4, 0, 1, 134]), (12, (.if_icmp .lt 4), 3, [16]), (15, .return_, 1, []), (16, (.aload_n 0), 1, []), (17, (.getfield 34), 3, [1, 12, 1, 185]), (20, (.getfield 147), 3, [4, 1, 1, 137]), (23, (.iload_n 1), 1, []), (24, .aaload, 1, []), (25, (.astore_n 2), 1, []), (26, (.iconst 0), 1, []), (27, (.istore_n 3), 1, []), (28, (.iload_n 3), 1, []), (29, (.aload_n 2), 1, []), (30, (.getfield 173), 3, [3, 2, 1, 95]), (33, (.if_icmp .ge 55), 3, [88]), (36, (.aload_n 2), 1, []), (37, (.getfield 203), 3, [3, 6, 1, 105]), (40, (.iload_n 3), 1, []), (41, .iaload, 1, []), (42, (.istore 4), 2, []), (44, (.aload_n 2), 1, []), (45, (.getfield 193), 3, [3, 0, 1, 91]), (48, (.aload_n 0), 1, []), (49, (.getfield 18), 3, [1, 9, 1, 181]), (52, (.iload 4), 2, []), (54, .iaload, 1, []), (55, (.if_icmp .le 27), 3, [82]), (58, (.aload_n 0), 1, []), (59, (.getfield 18), 3, [1, 9, 1, 181]), (62, (.iload 4), 2, []), (64, (.aload_n 2), 1, []), (65, (.getfield 193), 3, [3, 0, 1, 91]), (68, .iastore, 1, []), (69, (.aload_n 0), 1, []), (70, (.getfield 21), 3, [1, 10, 1, 182]), (73, (.iload 4), 2, []), (75, (.aload_n 2), 1, []), (76, (.getfield 213), 3, [3, 9, 1, 111]), (79, (.iload_n 3), 1, []), (80, .iaload, 1, []), (81, .iastore, 1, []), (82, (.iinc 3 1), 3, []), (85, (.goto (-57)), 3, [28]), (88, (.aload_n 0), 1, []), (89, (.getfield 34), 3, [1, 12, 1, 185]), (92, (.iload_n 1), 1, []), (93, (.invokevirtual 245), 3, [4, 14, 4, 15, 1, 6, 4, 17, 4, 16]), (96, .return_, 1, [])]
def co_X1_countValue : List Ent := [(0, (.iload_n 1), 1, []), (1, (.bipush 6), 2, []), (3, (.if_icmp .ne 13), 3, [16]), (6, (.aload_n 0), 1, []), (7, (.getfield 34), 3, [1, 12, 1, 185]), (10, (.getfield 97), 3, [4, 0, 1, 134]), (13, (.goto 9), 3, [22]), (16, (.aload_n 0), 1, []), (17, (.getfield 9), 3, [1, 7, 1, 178]), (20, (.iload_n 1), 1, []), (21, .iaload, 1, []), (22, .ireturn, 1, [])]
def co_X1_keptValue : List Ent := [(0, (.iload_n 3), 1, []), (1, (.tableswitch 107 0 8 #[51, 58, 65, 107, 107, 107, 107, 81, 100]), 51, [108, 52, 59, 66, 108, 108, 108, 108, 82, 101]), (52, (.aload_n 0), 1, []), (53, (.getfield 15), 3, [1, 8, 1, 180]), (56, (.iload_n 2), 1, []), (57, .iaload, 1, []), (58, .ireturn, 1, []), (59, (.aload_n 0), 1, []), (60, (.getfield 18), 3, [1, 9, 1, 181]), (63, (.iload_n 2), 1, []), (64, .iaload, 1, []), (65, .ireturn, 1, []), (66, (.aload_n 0), 1, []), (67, (.getfield 21), 3, [1, 10, 1, 182]), (70, (.iload_n 2), 1, []), (71, .iaload, 1, []), (72, (.iconst (-1)), 1, []), (73, (.if_icmp .eq 7), 3, [80]), (76, (.iconst 1), 1, []), (77, (.goto 4), 3, [81]), (80, (.iconst 0), 1, []), (81, .ireturn, 1, []), (82, (.aload_n 0), 1, []), (83, (.aload_n 0), 1, []), (84, (.aload_n 1), 1, []), (85, (.iload_n 2), 1, []), (86, (.invokevirtual 121), 3, [2, 65, 2, 66, 1, 4, 2, 68, 2, 67]), (89, (.invokevirtual 125), 3, [2, 76, 2, 77, 1, 4, 2, 79, 2, 78]), (92, (.ifCond .eq 7), 3, [99]), (95, (.iconst 1), 1, []), (96, (.goto 4), 3, [100]), (99, (.iconst 0), 1, []), (100, .ireturn, 1, []), (101, (.aload_n 0), 1, []), (102, (.aload_n 1), 1, []), (103, (.iload_n 2), 1, []), (104, (.invokevirtual 121), 3, [2, 65, 2, 66, 1, 4, 2, 68, 2, 67]), (107, .ireturn, 1, []), (108, (.aload_n 0), 1, []), (109, (.getfield 21), 3, [1, 10, 1, 182]), (112, (.iload_n 2), 1, []), (113, .iaload, 1, []), (114, (.iload_n 3), 1, []), (115, (.iconst 3), 1, []), (116, .isub, 1, []), (117, (.invokestatic 108), 3, [1, 2, 69, 2, 47, 1, 17, 2, 48]), (120, .ireturn, 1, [])]
def co_X2_init : List Ent := [(0, (.aload_n 0), 1, []), (1, (.invokespecial 3), 3, [0, 1, 40, 1, 27, 1, 28]), (4, (.aload_n 0), 1, []), (5, (.bipush 16), 2, []), (7, (.newarray .int), 2, [1, 16, 1, 52]), (9, (.putfield 9), 3, [2, 0, 1, 41, 22, 21]), (12, (.aload_n 0), 1, []), (13, (.bipush 16), 2, []), (15, (.newarray .int), 2, [1, 16, 1, 52]), (17, (.putfield 15), 3, [2, 1, 1, 43, 23, 22]), (20, (.aload_n 0), 1, []), (21, (.bipush 16), 2, []), (23, (.newarray .int), 2, [1, 16, 1, 52]), (25, (.putfield 18), 3, [2, 2, 1, 44, 8, 23]), (28, (.iconst 0), 1, []), (29, (.istore_n 1), 1, []), (30, (.iload_n 1), 1, []), (31, (.bipush 16), 2, []), (33, (.if_icmp .ge 16), 3, [49]), (36, (.aload_n 0), 1, []), (37, (.getfield 9), 3, [2, 0, 1, 41]), (40, (.iload_n 1), 1, []), (41, (.iconst (-1)), 1, []), (42, .iastore, 1, []), (43, (.iinc 1 1), 3, []), (46, (.goto (-16)), 3, [30]), (49, .return_, 1, [])]
def co_X2_copyFrom : List Ent := [(0, (.aload_n 1), 1, []), (1, (.getfield 9), 3, [2, 0, 1, 41]), (4, (.iconst 0), 1, []), (5, (.aload_n 0), 1, []), (6, (.getfield 9), 3, [2, 0, 1, 41]), (9, (.iconst 0), 1, []), (10, (.bipush 16), 2, []), (12, (.invokestatic 21), 3, [0, 3, 15, 3, 17, 3, 16, 1, 16]), (15, (.aload_n 1), 1, []), (16, (.getfield 15), 3, [2, 1, 1, 43]), (19, (.iconst 0), 1, []), (20, (.aload_n 0), 1, []), (21, (.getfield 15), 3, [2, 1, 1, 43]), (24, (.iconst 0), 1, []), (25, (.bipush 16), 2, []), (27, (.invokestatic 21), 3, [0, 3, 15, 3, 17, 3, 16, 1, 16]), (30, (.aload_n 1), 1, []), (31, (.getfield 18), 3, [2, 2, 1, 44]), (34, (.iconst 0), 1, []), (35, (.aload_n 0), 1, []), (36, (.getfield 18), 3, [2, 2, 1, 44]), (39, (.iconst 0), 1, []), (40, (.bipush 16), 2, []), (42, (.invokestatic 21), 3, [0, 3, 15, 3, 17, 3, 16, 1, 16]), (45, .return_, 1, [])]
def co_X2_exists : List Ent := [(0, (.aload_n 0), 1, []), (1, (.getfield 9), 3, [2, 0, 1, 41]), (4, (.iload_n 1), 1, []), (5, .iaload, 1, []), (6, (.iconst (-1)), 1, []), (7, (.if_icmp .eq 7), 3, [14]), (10, (.iconst 1), 1, []), (11, (.goto 4), 3, [15]), (14, (.iconst 0), 1, []), (15, .ireturn, 1, [])]
def co_X2_put : List Ent := [(0, (.aload_n 0), 1, []), (1, (.iload_n 1), 1, []), (2, (.invokevirtual 27), 3, [2, 42, 2, 43, 1, 3, 2, 45, 2, 44]), (5, (.istore_n 3), 1, []), (6, (.aload_n 0), 1, []), (7, (.getfield 9), 3, [2, 0, 1, 41]), (10, (.iload_n 1), 1, []), (11, (.iload_n 2), 1, []), (12, .iastore, 1, []), (13, (.iload_n 3), 1, []), (14, .ireturn, 1, [])]
def co_X2_changeVelocity : List Ent := [(0, (.bipush 10), 2, []), (2, (.aload_n 0), 1, []), (3, (.getfield 15), 3, [2, 1, 1, 43]), (6, (.iload_n 1), 1, []), (7, .iaload, 1, []), (8, (.iconst 3), 1, []), (9, .iadd, 1, []), (10, .imul, 1, []), (11, (.aload_n 0), 1, []), (12, (.getfield 18), 3, [2, 2, 1, 44]), (15, (.iload_n 1), 1, []), (16, .iaload, 1, []), (17, (.iconst 3), 1, []), (18, .iadd, 1, []), (19, .iadd, 1, []), (20, (.istore 4), 2, []), (22, (.aload_n 0), 1, []), (23, (.getfield 15), 3, [2, 1, 1, 43]), (26, (.iload_n 1), 1, []), (27, (.iload_n 2), 1, []), (28, .iastore, 1, []), (29, (.aload_n 0), 1, []), (30, (.getfield 18), 3, [2, 2, 1, 44]), (33, (.iload_n 1), 1, []), (34, (.iload_n 3), 1, []), (35, .iastore, 1, []), (36, (.iload 4), 2, []), (38, .ireturn, 1, [])]
def co_X2_changeHealth : List Ent := [(0, (.aload_n 0), 1, []), (1, (.getfield 9), 3, [2, 0, 1, 41]), (4, (.iload_n 1), 1, []), (5, .iaload, 1, []), (6, (.istore_n 3), 1, []), (7, (.aload_n 0), 1, []), (8, (.getfield 9), 3, [2, 0, 1, 41]), (11, (.iload_n 1), 1, []), (12, (.iload_n 3), 1, []), (13, (.iconst 0), 1, []), (14, (.invokestatic 33), 3, [1, 2, 46, 2, 47, 1, 17, 2, 48]), (17, (.iload_n 3), 1, []), (18, (.iconst 1), 1, []), (19, (.invokestatic 33), 3, [1, 2, 46, 2, 47, 1, 17, 2, 48]), (22, (.iload_n 3), 1, []), (23, (.iconst 2), 1, []), (24, (.invokestatic 33), 3, [1, 2, 46, 2, 47, 1, 17, 2, 48]), (27, (.iload_n 2), 1, []), (28, (.invokestatic 37), 3, [1, 3, 97, 3, 47, 1, 17, 3, 48]), (31, .iastore, 1, []), (32, (.iload_n 3), 1, []), (33, (.iconst 3), 1, []), (34, (.invokestatic 33), 3, [1, 2, 46, 2, 47, 1, 17, 2, 48]), (37, .ireturn, 1, [])]
def co_X2_remove : List Ent := [(0, (.aload_n 0), 1, []), (1, (.getfield 9), 3, [2, 0, 1, 41]), (4, (.iload_n 1), 1, []), (5, (.iconst (-1)), 1, []), (6, .iastore, 1, []), (7, (.aload_n 0), 1, []), (8, (.getfield 15), 3, [2, 1, 1, 43]), (11, (.iload_n 1), 1, []), (12, (.iconst 0), 1, []), (13, .iastore, 1, []), (14, (.aload_n 0), 1, []), (15, (.getfield 18), 3, [2, 2, 1, 44]), (18, (.iload_n 1), 1, []), (19, (.iconst 0), 1, []), (20, .iastore, 1, []), (21, (.iconst 0), 1, []), (22, (.istore_n 2), 1, []), (23, (.iconst 0), 1, []), (24, (.istore_n 3), 1, []), (25, (.iload_n 3), 1, []), (26, (.bipush 16), 2, []), (28, (.if_icmp .ge 25), 3, [53]), (31, (.iload_n 2), 1, []), (32, (.aload_n 0), 1, []), (33, (.iload_n 3), 1, []), (34, (.invokevirtual 27), 3, [2, 42, 2, 43, 1, 3, 2, 45, 2, 44]), (37, (.ifCond .eq 7), 3, [44]), (40, (.iconst 1), 1, []), (41, (.goto 4), 3, [45]), (44, (.iconst 0), 1, []), (45, .iadd, 1, []), (46, (.istore_n 2), 1, []), (47, (.iinc 3 1), 3, []), (50, (.goto (-25)), 3, [25]), (53, (.iload_n 2), 1, []), (54, .ireturn, 1, [])]
def co_X2_value : List Ent := [(0, (.iload_n 2), 1, []), (1, (.lookupswitch 63 #[(0, 35), (5, 49), (6, 56)]), 35, [64, 36, 50, 57]), (36, (.aload_n 0), 1, []), (37, (.iload_n 1), 1, []), (38, (.invokevirtual 27), 3, [2, 42, 2, 43, 1, 3, 2, 45, 2, 44]), (41, (.ifCond .eq 7), 3, [48]), (44, (.iconst 1), 1, []), (45, (.goto 4), 3, [49]), (48, (.iconst 0), 1, []), (49, .ireturn, 1, []), (50, (.aload_n 0), 1, []), (51, (.getfield 15), 3, [2, 1, 1, 43]), (54, (.iload_n 1), 1, []), (55, .iaload, 1, []), (56, .ireturn, 1, []), (57, (.aload_n 0), 1, []), (58, (.getfield 18), 3, [2, 2, 1, 44]), (61, (.iload_n 1), 1, []), (62, .iaload, 1, []), (63, .ireturn, 1, []), (64, (.aload_n 0), 1, []), (65, (.getfield 9), 3, [2, 0, 1, 41]), (68, (.iload_n 1), 1, []), (69, .iaload, 1, []), (70, (.iload_n 2), 1, []), (71, (.iconst 1), 1, []), (72, .isub, 1, []), (73, (.invokestatic 33), 3, [1, 2, 46, 2, 47, 1, 17, 2, 48]), (76, .ireturn, 1, [])]
def co_X2_move : List Ent := [(0, (.iconst 0), 1, []), (1, (.istore_n 1), 1, []), (2, (.iload_n 1), 1, []), (3, (.bipush 16), 2, []), (5, (.if_icmp .ge 22), 3, [27]), (8, (.aload_n 0), 1, []), (9, (.iload_n 1), 1, []), (10, (.invokevirtual 27), 3, [2, 42, 2, 43, 1, 3, 2, 45, 2, 44]), (13, (.ifCond .eq 8), 3, [21]), (16, (.aload_n 0), 1, []), (17, (.iload_n 1), 1, []), (18, (.invokevirtual 41), 3, [3, 188, 3, 190, 1, 3, 3, 191, 0, 7]), (21, (.iinc 1 1), 3, []), (24, (.goto (-22)), 3, [2]), (27, .return_, 1, [])]
def co_X2_moveOne : List Ent := [(0, (.aload_n 0), 1, []), (1, (.getfield 9), 3, [2, 0, 1, 41]), (4, (.iload_n 1), 1, []), (5, .iaload, 1, []), (6, (.istore_n 2), 1, []), (7, (.iload_n 2), 1, []), (8, (.iconst 0), 1, []), (9, (.invokestatic 33), 3, [1, 2, 46, 2, 47, 1, 17, 2, 48]), (12, (.aload_n 0), 1, []), (13, (.getfield 15), 3, [2, 1, 1, 43]), (16, (.iload_n 1), 1, []), (17, .iaload, 1, []), (18, .iadd, 1, []), (19, (.istore_n 3), 1, []), (20, (.iload_n 2), 1, []), (21, (.iconst 1), 1, []), (22, (.invokestatic 33), 3, [1, 2, 46, 2, 47, 1, 17, 2, 48]), (25, (.aload_n 0), 1, []), (26, (.getfield 18), 3, [2, 2, 1, 44]), (29, (.iload_n 1), 1, []), (30, .iaload, 1, []), (31, .iadd, 1, []), (32, (.istore 4), 2, []), (34, (.iload_n 3), 1, []), (35, (.invokestatic 45), 3, [1, 3, 192, 3, 193, 1, 3, 3, 194]), (38, (.ifCond .eq 21), 3, [59]), (41, (.iload_n 3), 1, []), (42, (.invokestatic 48), 3, [1, 3, 195, 3, 196, 1, 3, 3, 197]), (45, (.istore_n 3), 1, []), (46, (.aload_n 0), 1, []), (47, (.getfield 15), 3, [2, 1, 1, 43]), (50, (.iload_n 1), 1, []), (51, (.aload_n 0), 1, []), (52, (.getfield 15), 3, [2, 1, 1, 43]), (55, (.iload_n 1), 1, []), (56, .iaload, 1, []), (57, .ineg, 1, []), (58, .iastore, 1, []), (59, (.iload 4), 2, []), (61, (.invokestatic 45), 3, [1, 3, 192, 3, 193, 1, 3, 3, 194]), (64, (.ifCond .eq 23), 3, [87]), (67, (.iload 4), 2, []), (69, (.invokestatic 48), 3, [1, 3, 195, 3, 196, 1, 3, 3, 197]), (72, (.istore 4), 2, []), (74, (.aload_n 0), 1, []), (75, (.getfield 18), 3, [2, 2, 1, 44]), (78, (.iload_n 1), 1, []), (79, (.aload_n 0), 1, []), (80, (.getfield 18), 3, [2, 2, 1, 44]), (83, (.iload_n 1), 1, []), (84, .iaload, 1, []), (85, .ineg, 1, []), (86, .iastore, 1, []), (87, (.aload_n 0), 1, []), (88, (.getfield 9), 3, [2, 0, 1, 41]), (91, (.iload_n 1), 1, []), (92, (.iload_n 3), 1, []), (93, (.iload 4), 2, []), (95, (.iload_n 2), 1, []), (96, (.iconst 2), 1, []), (97, (.invokestatic 33), 3, [1, 2, 46, 2, 47, 1, 17, 2, 48]), (100, (.iload_n 2), 1, []), (101, (.iconst 3), 1, []), (102, (.invokestatic 33), 3, [1, 2, 46, 2, 47, 1, 17, 2, 48]), (105, (.invokestatic 37), 3, [1, 3, 97, 3, 47, 1, 17, 3, 48]), (108, .iastore, 1, []), (109, .return_, 1, [])]
def co_X2_isOutside : List Ent := [(0, (.iload_n 0), 1, []), (1, (.ifCond .lt 9), 3, [10]), (4, (.iload_n 0), 1, []), (5, (.bipush 31), 2, []), (7, (.if_icmp .le 7), 3, [14]), (10, (.iconst 1), 1, []), (11, (.goto 4), 3, [15]), (14, (.iconst 0), 1, []), (15, .ireturn, 1, [])]
def co_X2_reflected : List Ent := [(0, (.iload_n 0), 1, []), (1, (.ifCond .ge 8), 3, [9]), (4, (.iload_n 0), 1, []), (5, .ineg, 1, []), (6, (.goto 7), 3, [13]), (9, (.bipush 62), 2, []), (11, (.iload_n 0), 1, []), (12, .isub, 1, []), (13, .ireturn, 1, [])]
def co_X3_init : List Ent := [(0, (.aload_n 0), 1, []), (1, (.invokespecial 3), 3, [0, 1, 88, 1, 27, 1, 28]), (4, (.aload_n 0), 1, []), (5, (.bipush 16), 2, []), (7, (.newarray .int), 2, [1, 16, 1, 52]), (9, (.putfield 9), 3, [3, 5, 1, 102, 30, 29]), (12, (.aload_n 0), 1, []), (13, (.bipush 16), 2, []), (15, (.newarray .int), 2, [1, 16, 1, 52]), (17, (.putfield 15), 3, [3, 6, 1, 104, 31, 30]), (20, (.aload_n 0), 1, []), (21, (.bipush 16), 2, []), (23, (.newarray .int), 2, [1, 16, 1, 52]), (25, (.putfield 18), 3, [3, 7, 1, 106, 32, 31]), (28, (.aload_n 0), 1, []), (29, (.bipush 16), 2, []), (31, (.newarray .int), 2, [1, 16, 1, 52]), (33, (.putfield 21), 3, [3, 8, 1, 108, 33, 32]), (36, (.aload_n 0), 1, []), (37, (.bipush 16), 2, []), (39, (.newarray .int), 2, [1, 16, 1, 52]), (41, (.putfield 24), 3, [3, 9, 1, 110, 11, 33]), (44, .return_, 1, [])]
def co_X3_begin : List Ent := [(0, (.aload_n 0), 1, []), (1, (.iload_n 1), 1, []), (2, (.putfield 27), 3, [3, 0, 1, 89]), (5, (.aload_n 0), 1, []), (6, (.iconst 4), 1, []), (7, (.putfield 31), 3, [3, 1, 1, 92]), (10, (.aload_n 0), 1, []), (11, (.iconst 0), 1, []), (12, (.putfield 34), 3, [3, 2, 1, 94]), (15, (.aload_n 0), 1, []), (16, (.iload_n 2), 1, []), (17, (.putfield 37), 3, [3, 3, 1, 97]), (20, (.aload_n 0), 1, []), (21, (.iload_n 3), 1, []), (22, (.putfield 40), 3, [3, 4, 1, 99]), (25, .return_, 1, [])]
def co_X3_copyFrom : List Ent := [(0, (.aload_n 0), 1, []), (1, (.aload_n 1), 1, []), (2, (.getfield 27), 3, [3, 0, 1, 89]), (5, (.putfield 27), 3, [3, 0, 1, 89]), (8, (.aload_n 0), 1, []), (9, (.aload_n 1), 1, []), (10, (.getfield 31), 3, [3, 1, 1, 92]), (13, (.putfield 31), 3, [3, 1, 1, 92]), (16, (.aload_n 0), 1, []), (17, (.aload_n 1), 1, []), (18, (.getfield 34), 3, [3, 2, 1, 94]), (21, (.putfield 34), 3, [3, 2, 1, 94]), (24, (.aload_n 0), 1, []), (25, (.aload_n 1), 1, []), (26, (.getfield 37), 3, [3, 3, 1, 97]), (29, (.putfield 37), 3, [3, 3, 1, 97]), (32, (.aload_n 0), 1, []), (33, (.aload_n 1), 1, []), (34, (.getfield 40), 3, [3, 4, 1, 99]), (37, (.putfield 40), 3, [3, 4, 1, 99]), (40, (.aload_n 1), 1, []), (41, (.getfield 9), 3, [3, 5, 1, 102]), (44, (.iconst 0), 1, []), (45, (.aload_n 0), 1, []), (46, (.getfield 9), 3, [3, 5, 1, 102]), (49, (.iconst 0), 1, []), (50, (.bipush 16), 2, []), (52, (.invokestatic 43), 3, [0, 3, 40, 3, 17, 3, 16, 1, 16]), (55, (.aload_n 1), 1, []), (56, (.getfield 15), 3, [3, 6, 1, 104]), (59, (.iconst 0), 1, []), (60, (.aload_n 0), 1, []), (61, (.getfield 15), 3, [3, 6, 1, 104]), (64, (.iconst 0), 1, []), (65, (.bipush 16), 2, []), (67, (.invokestatic 43), 3, [0, 3, 40, 3, 17, 3, 16, 1, 16]), (70, (.aload_n 1), 1, []), (71, (.getfield 18), 3, [3, 7, 1, 106]), (74, (.iconst 0), 1, []), (75, (.aload_n 0), 1, []), (76, (.getfield 18), 3, [3, 7, 1, 106]), (79, (.iconst 0), 1, []), (80, (.bipush 16), 2, []), (82, (.invokestatic 43), 3, [0, 3, 40, 3, 17, 3, 16, 1, 16]), (85, (.aload_n 1), 1, []), (86, (.getfield 21), 3, [3, 8, 1, 108]), (89, (.iconst 0), 1, []), (90, (.aload_n 0), 1, []), (91, (.getfield 21), 3, [3, 8, 1, 108]), (94, (.iconst 0), 1, []), (95, (.bipush 16), 2, []), (97, (.invokestatic 43), 3, [0, 3, 40, 3, 17, 3, 16, 1, 16]), (100, (.aload_n 1), 1, []), (101, (.getfield 24), 3, [3, 9, 1, 110]), (104, (.iconst 0), 1, []), (105, (.aload_n 0), 1, []), (106, (.getfield 24), 3, [3, 9, 1, 110]), (109, (.iconst 0), 1, []), (110, (.bipush 16), 2, []), (112, (.invokestatic 43), 3, [0, 3, 40, 3, 17, 3, 16, 1, 16]), (115, .return_, 1, [])]
def co_X3_add : List Ent := [(0, (.aload_n 0), 1, []), (1, (.getfield 34), 3, [3, 2, 1, 94]), (4, (.bipush 16), 2, []), (6, (.if_icmp .lt 4), 3, [10]), (9, .return_, 1, []), (10, (.aload_n 0), 1, []), (11, (.getfield 9), 3, [3, 5, 1, 102]), (14, (.aload_n 0), 1, []), (15, (.getfield 34), 3, [3, 2, 1, 94]), (18, (.iload_n 1), 1, []), (19, .iastore, 1, []), (20, (.aload_n 0), 1, []), (21, (.getfield 15), 3, [3, 6, 1, 104]), (24, (.aload_n 0), 1, []), (25, (.getfield 34), 3, [3, 2, 1, 94]), (28, (.iload_n 2), 1, []), (29, .iastore, 1, []), (30, (.aload_n 0), 1, []), (31, (.getfield 18), 3, [3, 7, 1, 106]), (34, (.aload_n 0), 1, []), (35, (.getfield 34), 3, [3, 2, 1, 94]), (38, (.iload_n 3), 1, []), (39, .iastore, 1, []), (40, (.aload_n 0), 1, []), (41, (.getfield 21), 3, [3, 8, 1, 108]), (44, (.aload_n 0), 1, []), (45, (.getfield 34), 3, [3, 2, 1, 94]), (48, (.iload 4), 2, []), (50, .iastore, 1, []), (51, (.aload_n 0), 1, []), (52, (.getfield 24), 3, [3, 9, 1, 110]), (55, (.aload_n 0), 1, []), (56, (.getfield 34), 3, [3, 2, 1, 94]), (59, (.iload 5), 2, []), (61, .iastore, 1, []), (62, (.aload_n 0), 1, []), (63, .dup, 1, []), (64, (.getfield 34), 3, [3, 2, 1, 94]), (67, (.iconst 1), 1, []), (68, .iadd, 1, []), (69, (.putfield 34), 3, [3, 2, 1, 94]), (72, (.aload_n 0), 1, []), (73, .dup, 1, []), (74, (.getfield 31), 3, [3, 1, 1, 92]), (77, (.iload_n 1), 1, []), (78, (.iload 4), 2, []), (80, (.invokestatic 49), 3, [1, 2, 139, 2, 119, 1, 7, 2, 120]), (83, .iadd, 1, []), (84, (.putfield 31), 3, [3, 1, 1, 92]), (87, .return_, 1, [])]
def co_X3_bytesFor : List Ent := [(0, (.iload_n 0), 1, []), (1, (.ifCond .ne 7), 3, [8]), (4, (.iconst 2), 1, []), (5, (.goto 9), 3, [14]), (8, (.iconst 2), 1, []), (9, (.iload_n 1), 1, []), (10, (.invokestatic 53), 3, [1, 2, 121, 2, 122, 1, 20, 2, 123]), (13, .iadd, 1, []), (14, .ireturn, 1, [])]
def co_X3_value : List Ent := [(0, (.iload_n 1), 1, []), (1, (.tableswitch 42 0 2 #[27, 32, 37]), 27, [43, 28, 33, 38]), (28, (.aload_n 0), 1, []), (29, (.getfield 27), 3, [3, 0, 1, 89]), (32, .ireturn, 1, []), (33, (.aload_n 0), 1, []), (34, (.getfield 31), 3, [3, 1, 1, 92]), (37, .ireturn, 1, []), (38, (.aload_n 0), 1, []), (39, (.getfield 34), 3, [3, 2, 1, 94]), (42, .ireturn, 1, []), (43, (.iload_n 2), 1, []), (44, (.aload_n 0), 1, []), (45, (.getfield 37), 3, [3, 3, 1, 97]), (48, .isub, 1, []), (49, .ireturn, 1, [])]
def co_X3_entryValue : List Ent := [(0, (.iload_n 2), 1, []), (1, (.tableswitch 68 0 3 #[31, 38, 45, 61]), 31, [69, 32, 39, 46, 62]), (32, (.aload_n 0), 1, []), (33, (.getfield 9), 3, [3, 5, 1, 102]), (36, (.iload_n 1), 1, []), (37, .iaload, 1, []), (38, .ireturn, 1, []), (39, (.aload_n 0), 1, []), (40, (.getfield 15), 3, [3, 6, 1, 104]), (43, (.iload_n 1), 1, []), (44, .iaload, 1, []), (45, .ireturn, 1, []), (46, (.aload_n 0), 1, []), (47, (.getfield 9), 3, [3, 5, 1, 102]), (50, (.iload_n 1), 1, []), (51, .iaload, 1, []), (52, (.aload_n 0), 1, []), (53, (.getfield 21), 3, [3, 8, 1, 108]), (56, (.iload_n 1), 1, []), (57, .iaload, 1, []), (58, (.invokestatic 49), 3, [1, 2, 139, 2, 119, 1, 7, 2, 120]), (61, .ireturn, 1, []), (62, (.aload_n 0), 1, []), (63, (.getfield 18), 3, [3, 7, 1, 106]), (66, (.iload_n 1), 1, []), (67, .iaload, 1, []), (68, .ireturn, 1, []), (69, (.aload_n 0), 1, []), (70, (.getfield 21), 3, [3, 8, 1, 108]), (73, (.iload_n 1), 1, []), (74, .iaload, 1, []), (75, .ireturn, 1, [])]
def co_X4_init : List Ent := [(0, (.aload_n 0), 1, []), (1, (.invokespecial 3), 3, [0, 1, 81, 1, 27, 1, 28]), (4, (.aload_n 0), 1, []), (5, (.bipush 12), 2, []), (7, (.anewarray 11), 3, [12, 12, 1, 82, 0, 0]), (10, (.putfield 13), 3, [4, 1, 1, 136, 13, 34]), (13, (.iconst 0), 1, []), (14, (.istore_n 1), 1, []), (15, (.iload_n 1), 1, []), (16, (.bipush 12), 2, []), (18, (.if_icmp .ge 22), 3, [40]), (21, (.aload_n 0), 1, []), (22, (.getfield 13), 3, [4, 1, 1, 136]), (25, (.iload_n 1), 1, []), (26, (.new 11), 3, [1, 29, 10, 1, 82, 1, 84, 1, 7]), (29, .dup, 1, []), (30, (.invokespecial 17), 3, [1, 11, 1, 0, 1, 86, 1, 7, 1, 87]), (33, .aastore, 1, []), (34, (.iinc 1 1), 3, []), (37, (.goto (-22)), 3, [15]), (40, .return_, 1, [])]
def co_X4_copyFrom : List Ent := [(0, (.aload_n 0), 1, []), (1, (.aload_n 1), 1, []), (2, (.getfield 18), 3, [4, 0, 1, 133]), (5, (.putfield 18), 3, [4, 0, 1, 133]), (8, (.iconst 0), 1, []), (9, (.istore_n 2), 1, []), (10, (.iload_n 2), 1, []), (11, (.aload_n 0), 1, []), (12, (.getfield 18), 3, [4, 0, 1, 133]), (15, (.if_icmp .ge 24), 3, [39]), (18, (.aload_n 0), 1, []), (19, (.getfield 13), 3, [4, 1, 1, 136]), (22, (.iload_n 2), 1, []), (23, .aaload, 1, []), (24, (.aload_n 1), 1, []), (25, (.getfield 13), 3, [4, 1, 1, 136]), (28, (.iload_n 2), 1, []), (29, .aaload, 1, []), (30, (.invokevirtual 22), 3, [3, 36, 3, 37, 1, 7, 3, 39, 3, 38]), (33, (.iinc 2 1), 3, []), (36, (.goto (-26)), 3, [10]), (39, .return_, 1, [])]
def co_X4_isFull : List Ent := [(0, (.aload_n 0), 1, []), (1, (.getfield 18), 3, [4, 0, 1, 133]), (4, (.bipush 12), 2, []), (6, (.if_icmp .lt 7), 3, [13]), (9, (.iconst 1), 1, []), (10, (.goto 4), 3, [14]), (13, (.iconst 0), 1, []), (14, .ireturn, 1, [])]
def co_X4_addCopy : List Ent := [(0, (.aload_n 0), 1, []), (1, (.invokevirtual 26), 3, [4, 59, 4, 36, 1, 6, 4, 38, 4, 37]), (4, (.ifCond .ne 26), 3, [30]), (7, (.aload_n 0), 1, []), (8, (.getfield 13), 3, [4, 1, 1, 136]), (11, (.aload_n 0), 1, []), (12, (.getfield 18), 3, [4, 0, 1, 133]), (15, .aaload, 1, []), (16, (.aload_n 1), 1, []), (17, (.invokevirtual 22), 3, [3, 36, 3, 37, 1, 7, 3, 39, 3, 38]), (20, (.aload_n 0), 1, []), (21, .dup, 1, []), (22, (.getfield 18), 3, [4, 0, 1, 133]), (25, (.iconst 1), 1, []), (26, .iadd, 1, []), (27, (.putfield 18), 3, [4, 0, 1, 133]), (30, .return_, 1, [])]
def co_X4_indexOf : List Ent := [(0, (.iconst 0), 1, []), (1, (.istore_n 2), 1, []), (2, (.iload_n 2), 1, []), (3, (.aload_n 0), 1, []), (4, (.getfield 18), 3, [4, 0, 1, 133]), (7, (.if_icmp .ge 24), 3, [31]), (10, (.aload_n 0), 1, []), (11, (.getfield 13), 3, [4, 1, 1, 136]), (14, (.iload_n 2), 1, []), (15, .aaload, 1, []), (16, (.getfield 30), 3, [3, 0, 1, 90]), (19, (.iload_n 1), 1, []), (20, (.if_icmp .ne 5), 3, [25]), (23, (.iload_n 2), 1, []), (24, .ireturn, 1, []), (25, (.iinc 2 1), 3, []), (28, (.goto (-26)), 3, [2]), (31, (.iconst (-1)), 1, []), (32, .ireturn, 1, [])]
def co_X4_removeAt : List Ent := [(0, (.iload_n 1), 1, []), (1, (.ifCond .lt 11), 3, [12]), (4, (.iload_n 1), 1, []), (5, (.aload_n 0), 1, []), (6, (.getfield 18), 3, [4, 0, 1, 133]), (9, (.if_icmp .lt 4), 3, [13]), (12, .return_, 1, []), (13, (.aload_n 0), 1, []), (14, (.getfield 13), 3, [4, 1, 1, 136]), (17, (.iload_n 1), 1, []), (18, .aaload, 1, []), (19, (.astore_n 2), 1, []), (20, (.iload_n 1), 1, []), (21, (.istore_n 3), 1, []), (22, (.iload_n 3), 1, []), (23, (.aload_n 0), 1, []), (24, (.getfield 18), 3, [4, 0, 1, 133]), (27, (.iconst 1), 1, []), (28, .isub, 1, []), (29, (.if_icmp .ge 23), 3, [52]), (32, (.aload_n 0), 1, []), (33, (.getfield 13), 3, [4, 1, 1, 136]), (36, (.iload_n 3), 1, []), (37, (.aload_n 0), 1, []), (38, (.getfield 13), 3, [4, 1, 1, 136]), (41, (.iload_n 3), 1, []), (42, (.iconst 1), 1, []), (43, .iadd, 1, []), (44, .aaload, 1, []), (45, .aastore, 1, []), (46, (.iinc 3 1), 3, []), (49, (.goto (-27)), 3, [22]), (52, (.aload_n 0), 1, []), (53, (.getfield 13), 3, [4, 1, 1, 136]), (56, (.aload_n 0), 1, []), (57, (.getfield 18), 3, [4, 0, 1, 133]), (60, (.iconst 1), 1, []), (61, .isub, 1, []), (62, (.aload_n 2), 1, []), (63, .aastore, 1, []), (64, (.aload_n 0), 1, []), (65, .dup, 1, []), (66, (.getfield 18), 3, [4, 0, 1, 133]), (69, (.iconst 1), 1, []), (70, .isub, 1, []), (71, (.putfield 18), 3, [4, 0, 1, 133]), (74, .return_, 1, [])]
def co_X4_removeArrived : List Ent := [(0, (.aload_n 0), 1, []), (1, (.getfield 18), 3, [4, 0, 1, 133]), (4, (.iconst 1), 1, []), (5, .isub, 1, []), (6, (.istore_n 2), 1, []), (7, (.iload_n 2), 1, []), (8, (.ifCond .lt 27), 3, [35]), (11, (.aload_n 0), 1, []), (12, (.getfield 13), 3, [4, 1, 1, 136]), (15, (.iload_n 2), 1, []), (16, .aaload, 1, []), (17, (.getfield 33), 3, [3, 4, 1, 100]), (20, (.iload_n 1), 1, []), (21, (.if_icmp .ne 8), 3, [29]), (24, (.aload_n 0), 1, []), (25, (.iload_n 2), 1, []), (26, (.invokevirtual 36), 3, [3, 238, 3, 239, 1, 6, 4, 1, 4, 0]), (29, (.iinc 2 (-1)), 3, []), (32, (.goto (-25)), 3, [7]), (35, .return_, 1, [])]
def co_X4_removeUpTo : List Ent := [(0, (.iconst 0), 1, []), (1, (.istore_n 2), 1, []), (2, (.iload_n 2), 1, []), (3, (.iload_n 1), 1, []), (4, (.if_icmp .gt 14), 3, [18]), (7, (.aload_n 0), 1, []), (8, (.iconst 0), 1, []), (9, (.invokevirtual 36), 3, [3, 238, 3, 239, 1, 6, 4, 1, 4, 0]), (12, (.iinc 2 1), 3, []), (15, (.goto (-13)), 3, [2]), (18, .return_, 1, [])]
def co_X5_init : List Ent := [(0, (.aload_n 0), 1, []), (1, (.invokespecial 3), 3, [0, 1, 65, 1, 27, 1, 28]), (4, (.aload_n 0), 1, []), (5, (.bipush 16), 2, []), (7, (.newarray .int), 2, [1, 16, 1, 52]), (9, (.putfield 9), 3, [5, 0, 1, 66, 25, 24]), (12, (.aload_n 0), 1, []), (13, (.sipush 192), 3, []), (16, (.newarray .int), 2, [3, 192, 1, 52]), (18, (.putfield 15), 3, [5, 1, 1, 67, 26, 25]), (21, (.aload_n 0), 1, []), (22, (.sipush 192), 3, []), (25, (.newarray .int), 2, [3, 192, 1, 52]), (27, (.putfield 18), 3, [5, 2, 1, 68, 9, 26]), (30, .return_, 1, [])]
def co_X5_copyFrom : List Ent := [(0, (.aload_n 1), 1, []), (1, (.getfield 9), 3, [5, 0, 1, 66]), (4, (.iconst 0), 1, []), (5, (.aload_n 0), 1, []), (6, (.getfield 9), 3, [5, 0, 1, 66]), (9, (.iconst 0), 1, []), (10, (.bipush 16), 2, []), (12, (.invokestatic 21), 3, [0, 3, 31, 3, 17, 3, 16, 1, 16]), (15, (.aload_n 1), 1, []), (16, (.getfield 15), 3, [5, 1, 1, 67]), (19, (.iconst 0), 1, []), (20, (.aload_n 0), 1, []), (21, (.getfield 15), 3, [5, 1, 1, 67]), (24, (.iconst 0), 1, []), (25, (.sipush 192), 3, []), (28, (.invokestatic 21), 3, [0, 3, 31, 3, 17, 3, 16, 1, 16]), (31, (.aload_n 1), 1, []), (32, (.getfield 18), 3, [5, 2, 1, 68]), (35, (.iconst 0), 1, []), (36, (.aload_n 0), 1, []), (37, (.getfield 18), 3, [5, 2, 1, 68]), (40, (.iconst 0), 1, []), (41, (.sipush 192), 3, []), (44, (.invokestatic 21), 3, [0, 3, 31, 3, 17, 3, 16, 1, 16]), (47, .return_, 1, [])]
def co_X5_clear : List Ent := [(0, (.iconst 0), 1, []), (1, (.istore_n 1), 1, []), (2, (.iload_n 1), 1, []), (3, (.bipush 16), 2, []), (5, (.if_icmp .ge 16), 3, [21]), (8, (.aload_n 0), 1, []), (9, (.getfield 9), 3, [5, 0, 1, 66]), (12, (.iload_n 1), 1, []), (13, (.iconst 0), 1, []), (14, .iastore, 1, []), (15, (.iinc 1 1), 3, []), (18, (.goto (-16)), 3, [2]), (21, .return_, 1, [])]
def co_X5_add : List Ent := [(0, (.aload_n 0), 1, []), (1, (.getfield 9), 3, [5, 0, 1, 66]), (4, (.iload_n 1), 1, []), (5, .iaload, 1, []), (6, (.bipush 12), 2, []), (8, (.if_icmp .lt 8), 3, [16]), (11, (.aload_n 0), 1, []), (12, (.iload_n 1), 1, []), (13, (.invokevirtual 27), 3, [3, 222, 3, 224, 1, 5, 3, 225, 0, 10]), (16, (.iload_n 1), 1, []), (17, (.bipush 12), 2, []), (19, .imul, 1, []), (20, (.aload_n 0), 1, []), (21, (.getfield 9), 3, [5, 0, 1, 66]), (24, (.iload_n 1), 1, []), (25, .iaload, 1, []), (26, .iadd, 1, []), (27, (.istore 4), 2, []), (29, (.aload_n 0), 1, []), (30, (.getfield 15), 3, [5, 1, 1, 67]), (33, (.iload 4), 2, []), (35, (.iload_n 2), 1, []), (36, .iastore, 1, []), (37, (.aload_n 0), 1, []), (38, (.getfield 18), 3, [5, 2, 1, 68]), (41, (.iload 4), 2, []), (43, (.iload_n 3), 1, []), (44, .iastore, 1, []), (45, (.aload_n 0), 1, []), (46, (.getfield 9), 3, [5, 0, 1, 66]), (49, (.iload_n 1), 1, []), (50, .dup2, 1, []), (51, .iaload, 1, []), (52, (.iconst 1), 1, []), (53, .iadd, 1, []), (54, .iastore, 1, []), (55, .return_, 1, [])]
def co_X5_dropOldest : List Ent := [(0, (.iload_n 1), 1, []), (1, (.bipush 12), 2, []), (3, .imul, 1, []), (4, (.istore_n 2), 1, []), (5, (.aload_n 0), 1, []), (6, (.getfield 15), 3, [5, 1, 1, 67]), (9, (.iload_n 2), 1, []), (10, (.iconst 1), 1, []), (11, .iadd, 1, []), (12, (.aload_n 0), 1, []), (13, (.getfield 15), 3, [5, 1, 1, 67]), (16, (.iload_n 2), 1, []), (17, (.bipush 11), 2, []), (19, (.invokestatic 21), 3, [0, 3, 31, 3, 17, 3, 16, 1, 16]), (22, (.aload_n 0), 1, []), (23, (.getfield 18), 3, [5, 2, 1, 68]), (26, (.iload_n 2), 1, []), (27, (.iconst 1), 1, []), (28, .iadd, 1, []), (29, (.aload_n 0), 1, []), (30, (.getfield 18), 3, [5, 2, 1, 68]), (33, (.iload_n 2), 1, []), (34, (.bipush 11), 2, []), (36, (.invokestatic 21), 3, [0, 3, 31, 3, 17, 3, 16, 1, 16]), (39, (.aload_n 0), 1, []), (40, (.getfield 9), 3, [5, 0, 1, 66]), (43, (.iload_n 1), 1, []), (44, (.bipush 11), 2, []), (46, .iastore, 1, []), (47, .return_, 1, [])]
def co_X5_lastNumber : List Ent := [(0, (.aload_n 0), 1, []), (1, (.getfield 9), 3, [5, 0, 1, 66]), (4, (.iload_n 1), 1, []), (5, .iaload, 1, []), (6, (.ifCond .ne 7), 3, [13]), (9, (.iconst 0), 1, []), (10, (.goto 21), 3, [31]), (13, (.aload_n 0), 1, []), (14, (.getfield 15), 3, [5, 1, 1, 67]), (17, (.iload_n 1), 1, []), (18, (.bipush 12), 2, []), (20, .imul, 1, []), (21, (.aload_n 0), 1, []), (22, (.getfield 9), 3, [5, 0, 1, 66]), (25, (.iload_n 1), 1, []), (26, .iaload, 1, []), (27, .iadd, 1, []), (28, (.iconst 1), 1, []), (29, .isub, 1, []), (30, .iaload, 1, []), (31, .ireturn, 1, [])]
def co_X5_lastState : List Ent := [(0, (.aload_n 0), 1, []), (1, (.getfield 9), 3, [5, 0, 1, 66]), (4, (.iload_n 1), 1, []), (5, .iaload, 1, []), (6, (.ifCond .ne 7), 3, [13]), (9, (.iconst (-1)), 1, []), (10, (.goto 21), 3, [31]), (13, (.aload_n 0), 1, []), (14, (.getfield 18), 3, [5, 2, 1, 68]), (17, (.iload_n 1), 1, []), (18, (.bipush 12), 2, []), (20, .imul, 1, []), (21, (.aload_n 0), 1, []), (22, (.getfield 9), 3, [5, 0, 1, 66]), (25, (.iload_n 1), 1, []), (26, .iaload, 1, []), (27, .iadd, 1, []), (28, (.iconst 1), 1, []), (29, .isub, 1, []), (30, .iaload, 1, []), (31, .ireturn, 1, [])]
def co_X5_stateOfRecord : List Ent := [(0, (.iload_n 1), 1, []), (1, (.bipush 12), 2, []), (3, .imul, 1, []), (4, (.istore_n 3), 1, []), (5, (.iload_n 3), 1, []), (6, (.istore 4), 2, []), (8, (.iload 4), 2, []), (10, (.iload_n 3), 1, []), (11, (.aload_n 0), 1, []), (12, (.getfield 9), 3, [5, 0, 1, 66]), (15, (.iload_n 1), 1, []), (16, .iaload, 1, []), (17, .iadd, 1, []), (18, (.if_icmp .ge 28), 3, [46]), (21, (.aload_n 0), 1, []), (22, (.getfield 15), 3, [5, 1, 1, 67]), (25, (.iload 4), 2, []), (27, .iaload, 1, []), (28, (.iload_n 2), 1, []), (29, (.if_icmp .ne 11), 3, [40]), (32, (.aload_n 0), 1, []), (33, (.getfield 18), 3, [5, 2, 1, 68]), (36, (.iload 4), 2, []), (38, .iaload, 1, []), (39, .ireturn, 1, []), (40, (.iinc 4 1), 3, []), (43, (.goto (-35)), 3, [8]), (46, (.iconst (-1)), 1, []), (47, .ireturn, 1, [])]
def co_X5_value : List Ent := [(0, (.iload_n 2), 1, []), (1, (.lookupswitch 63 #[(0, 35), (5, 50), (6, 56)]), 35, [64, 36, 51, 57]), (36, (.aload_n 0), 1, []), (37, (.iload_n 1), 1, []), (38, (.invokevirtual 31), 3, [2, 92, 2, 81, 1, 5, 2, 83, 2, 82]), (41, (.iconst (-1)), 1, []), (42, (.if_icmp .eq 7), 3, [49]), (45, (.iconst 1), 1, []), (46, (.goto 4), 3, [50]), (49, (.iconst 0), 1, []), (50, .ireturn, 1, []), (51, (.aload_n 0), 1, []), (52, (.iload_n 1), 1, []), (53, (.invokevirtual 35), 3, [2, 93, 2, 94, 1, 5, 2, 96, 2, 95]), (56, .ireturn, 1, []), (57, (.aload_n 0), 1, []), (58, (.getfield 9), 3, [5, 0, 1, 66]), (61, (.iload_n 1), 1, []), (62, .iaload, 1, []), (63, .ireturn, 1, []), (64, (.aload_n 0), 1, []), (65, (.iload_n 1), 1, []), (66, (.invokevirtual 31), 3, [2, 92, 2, 81, 1, 5, 2, 83, 2, 82]), (69, (.iload_n 2), 1, []), (70, (.iconst 1), 1, []), (71, .isub, 1, []), (72, (.invokestatic 38), 3, [1, 2, 97, 2, 47, 1, 17, 2, 48]), (75, .ireturn, 1, [])]
def co_X6_of : List Ent := [(0, (.iload_n 0), 1, []), (1, (.getstatic 9), 3, [91, 2, 49]), (4, (.iconst 0), 1, []), (5, .iaload, 1, []), (6, .ishl, 1, []), (7, (.iload_n 1), 1, []), (8, (.getstatic 9), 3, [91, 2, 49]), (11, (.iconst 1), 1, []), (12, .iaload, 1, []), (13, .ishl, 1, []), (14, .ior, 1, []), (15, (.iload_n 2), 1, []), (16, (.getstatic 9), 3, [91, 2, 49]), (19, (.iconst 2), 1, []), (20, .iaload, 1, []), (21, .ishl, 1, []), (22, .ior, 1, []), (23, (.iload_n 3), 1, []), (24, (.getstatic 9), 3, [91, 2, 49]), (27, (.iconst 3), 1, []), (28, .iaload, 1, []), (29, .ishl, 1, []), (30, .ior, 1, []), (31, .ireturn, 1, [])]
def co_X6_part : List Ent := [(0, (.iload_n 0), 1, []), (1, (.iconst (-1)), 1, []), (2, (.if_icmp .eq 12), 3, [14]), (5, (.iload_n 1), 1, []), (6, (.ifCond .lt 8), 3, [14]), (9, (.iload_n 1), 1, []), (10, (.iconst 4), 1, []), (11, (.if_icmp .lt 5), 3, [16]), (14, (.iconst 0), 1, []), (15, .ireturn, 1, []), (16, (.iload_n 0), 1, []), (17, (.getstatic 9), 3, [91, 2, 49]), (20, (.iload_n 1), 1, []), (21, .iaload, 1, []), (22, .ishr, 1, []), (23, (.getstatic 15), 3, [92, 2, 51]), (26, (.iload_n 1), 1, []), (27, .iaload, 1, []), (28, .iand, 1, []), (29, .ireturn, 1, [])]
def co_X6_maskOfDifferences : List Ent := [(0, (.iconst 0), 1, []), (1, (.istore_n 2), 1, []), (2, (.iconst 0), 1, []), (3, (.istore_n 3), 1, []), (4, (.iload_n 3), 1, []), (5, (.iconst 4), 1, []), (6, (.if_icmp .ge 28), 3, [34]), (9, (.iload_n 0), 1, []), (10, (.iload_n 3), 1, []), (11, (.invokestatic 18), 3, [1, 2, 117, 2, 47, 1, 17, 2, 48]), (14, (.iload_n 1), 1, []), (15, (.iload_n 3), 1, []), (16, (.invokestatic 18), 3, [1, 2, 117, 2, 47, 1, 17, 2, 48]), (19, (.if_icmp .eq 9), 3, [28]), (22, (.iload_n 2), 1, []), (23, (.iconst 1), 1, []), (24, (.iload_n 3), 1, []), (25, .ishl, 1, []), (26, .ior, 1, []), (27, (.istore_n 2), 1, []), (28, (.iinc 3 1), 3, []), (31, (.goto (-27)), 3, [4]), (34, (.iload_n 2), 1, []), (35, .ireturn, 1, [])]
def co_X6_withParts : List Ent := [(0, (.iconst 0), 1, []), (1, (.istore_n 3), 1, []), (2, (.iconst 0), 1, []), (3, (.istore 4), 2, []), (5, (.iload 4), 2, []), (7, (.iconst 4), 1, []), (8, (.if_icmp .ge 42), 3, [50]), (11, (.iload_n 2), 1, []), (12, (.iconst 1), 1, []), (13, (.iload 4), 2, []), (15, .ishl, 1, []), (16, .iand, 1, []), (17, (.ifCond .eq 7), 3, [24]), (20, (.iload_n 1), 1, []), (21, (.goto 4), 3, [25]), (24, (.iload_n 0), 1, []), (25, (.istore 5), 2, []), (27, (.iload_n 3), 1, []), (28, (.iload 5), 2, []), (30, (.iload 4), 2, []), (32, (.invokestatic 18), 3, [1, 2, 117, 2, 47, 1, 17, 2, 48]), (35, (.getstatic 9), 3, [91, 2, 49]), (38, (.iload 4), 2, []), (40, .iaload, 1, []), (41, .ishl, 1, []), (42, .ior, 1, []), (43, (.istore_n 3), 1, []), (44, (.iinc 4 1), 3, []), (47, (.goto (-42)), 3, [5]), (50, (.iload_n 3), 1, []), (51, .ireturn, 1, [])]
def co_X7_init : List Ent := [(0, (.aload_n 0), 1, []), (1, (.invokespecial 1), 3, [0, 2, 9, 1, 27, 1, 28]), (4, (.aload_n 0), 1, []), (5, (.iconst 3), 1, []), (6, (.anewarray 9), 3, [17, 3, 2, 10, 0, 0]), (9, (.putfield 11), 3, [6, 1, 2, 15, 18, 46]), (12, (.iconst 0), 1, []), (13, (.istore_n 1), 1, []), (14, (.iload_n 1), 1, []), (15, (.iconst 3), 1, []), (16, (.if_icmp .ge 22), 3, [38]), (19, (.aload_n 0), 1, []), (20, (.getfield 11), 3, [6, 1, 2, 15]), (23, (.iload_n 1), 1, []), (24, (.new 9), 3, [1, 44, 5, 2, 10, 1, 30, 1, 2]), (27, .dup, 1, []), (28, (.invokespecial 15), 3, [1, 16, 2, 12, 1, 32, 1, 2, 1, 33]), (31, .aastore, 1, []), (32, (.iinc 1 1), 3, []), (35, (.goto (-21)), 3, [14]), (38, .return_, 1, [])]
def co_X7_push : List Ent := [(0, (.aload_n 0), 1, []), (1, (.getfield 16), 3, [6, 0, 2, 13]), (4, (.iconst 3), 1, []), (5, (.if_icmp .lt 7), 3, [12]), (8, (.aload_n 0), 1, []), (9, (.invokevirtual 20), 3, [3, 3, 3, 5, 1, 9, 3, 6, 0, 4]), (12, (.aload_n 0), 1, []), (13, (.getfield 11), 3, [6, 1, 2, 15]), (16, (.aload_n 0), 1, []), (17, (.getfield 16), 3, [6, 0, 2, 13]), (20, .aaload, 1, []), (21, (.aload_n 1), 1, []), (22, (.invokevirtual 23), 3, [3, 7, 3, 8, 1, 2, 3, 10, 3, 9]), (25, (.aload_n 0), 1, []), (26, .dup, 1, []), (27, (.getfield 16), 3, [6, 0, 2, 13]), (30, (.iconst 1), 1, []), (31, .iadd, 1, []), (32, (.putfield 16), 3, [6, 0, 2, 13]), (35, .return_, 1, [])]
def co_X7_dropOldest : List Ent := [(0, (.aload_n 0), 1, []), (1, (.getfield 11), 3, [6, 1, 2, 15]), (4, (.iconst 0), 1, []), (5, .aaload, 1, []), (6, (.astore_n 1), 1, []), (7, (.iconst 0), 1, []), (8, (.istore_n 2), 1, []), (9, (.iload_n 2), 1, []), (10, (.iconst 2), 1, []), (11, (.if_icmp .ge 23), 3, [34]), (14, (.aload_n 0), 1, []), (15, (.getfield 11), 3, [6, 1, 2, 15]), (18, (.iload_n 2), 1, []), (19, (.aload_n 0), 1, []), (20, (.getfield 11), 3, [6, 1, 2, 15]), (23, (.iload_n 2), 1, []), (24, (.iconst 1), 1, []), (25, .iadd, 1, []), (26, .aaload, 1, []), (27, .aastore, 1, []), (28, (.iinc 2 1), 3, []), (31, (.goto (-22)), 3, [9]), (34, (.aload_n 0), 1, []), (35, (.getfield 11), 3, [6, 1, 2, 15]), (38, (.iconst 2), 1, []), (39, (.aload_n 1), 1, []), (40, .aastore, 1, []), (41, (.aload_n 0), 1, []), (42, (.iconst 2), 1, []), (43, (.putfield 16), 3, [6, 0, 2, 13]), (46, .return_, 1, [])]
def co_X7_popInto : List Ent := [(0, (.aload_n 0), 1, []), (1, (.getfield 16), 3, [6, 0, 2, 13]), (4, (.ifCond .le 26), 3, [30]), (7, (.aload_n 0), 1, []), (8, .dup, 1, []), (9, (.getfield 16), 3, [6, 0, 2, 13]), (12, (.iconst 1), 1, []), (13, .isub, 1, []), (14, (.putfield 16), 3, [6, 0, 2, 13]), (17, (.aload_n 1), 1, []), (18, (.aload_n 0), 1, []), (19, (.getfield 11), 3, [6, 1, 2, 15]), (22, (.aload_n 0), 1, []), (23, (.getfield 16), 3, [6, 0, 2, 13]), (26, .aaload, 1, []), (27, (.invokevirtual 23), 3, [3, 7, 3, 8, 1, 2, 3, 10, 3, 9]), (30, .return_, 1, [])]
def co_X8_init : List Ent := [(0, (.aload_n 0), 1, []), (1, (.invokespecial 3), 3, [0, 1, 34, 1, 27, 1, 28]), (4, (.aload_n 0), 1, []), (5, (.iconst 2), 1, []), (6, (.putfield 9), 3, [7, 1, 1, 225]), (9, (.aload_n 0), 1, []), (10, (.iconst 2), 1, []), (11, (.putfield 15), 3, [7, 2, 1, 227]), (14, (.aload_n 0), 1, []), (15, (.new 18), 3, [1, 21, 3, 1, 35, 1, 36, 1, 3]), (18, .dup, 1, []), (19, (.invokespecial 20), 3, [1, 8, 1, 37, 1, 38, 1, 3, 1, 39]), (22, (.putfield 21), 3, [7, 3, 1, 229, 45, 44]), (25, (.aload_n 0), 1, []), (26, (.iconst 3), 1, []), (27, (.anewarray 25), 3, [15, 3, 1, 53, 0, 0]), (30, (.putfield 27), 3, [7, 4, 1, 231, 16, 45]), (33, (.iconst 0), 1, []), (34, (.istore_n 1), 1, []), (35, (.iload_n 1), 1, []), (36, (.iconst 3), 1, []), (37, (.if_icmp .ge 22), 3, [59]), (40, (.aload_n 0), 1, []), (41, (.getfield 27), 3, [7, 4, 1, 231]), (44, (.iload_n 1), 1, []), (45, (.new 25), 3, [1, 35, 16, 1, 53, 1, 55, 1, 4]), (48, .dup, 1, []), (49, (.invokespecial 31), 3, [1, 14, 1, 56, 1, 57, 1, 4, 1, 58]), (52, .aastore, 1, []), (53, (.iinc 1 1), 3, []), (56, (.goto (-21)), 3, [35]), (59, .return_, 1, [])]
def co_X8_copyFrom : List Ent := [(0, (.aload_n 0), 1, []), (1, (.aload_n 1), 1, []), (2, (.getfield 32), 3, [7, 0, 1, 223]), (5, (.putfield 32), 3, [7, 0, 1, 223]), (8, (.aload_n 0), 1, []), (9, (.aload_n 1), 1, []), (10, (.getfield 9), 3, [7, 1, 1, 225]), (13, (.putfield 9), 3, [7, 1, 1, 225]), (16, (.aload_n 0), 1, []), (17, (.aload_n 1), 1, []), (18, (.getfield 15), 3, [7, 2, 1, 227]), (21, (.putfield 15), 3, [7, 2, 1, 227]), (24, (.aload_n 0), 1, []), (25, (.getfield 21), 3, [7, 3, 1, 229]), (28, (.aload_n 1), 1, []), (29, (.getfield 21), 3, [7, 3, 1, 229]), (32, (.invokevirtual 35), 3, [3, 11, 3, 12, 1, 3, 3, 14, 3, 13]), (35, (.iconst 0), 1, []), (36, (.istore_n 2), 1, []), (37, (.iload_n 2), 1, []), (38, (.iconst 3), 1, []), (39, (.if_icmp .ge 24), 3, [63]), (42, (.aload_n 0), 1, []), (43, (.getfield 27), 3, [7, 4, 1, 231]), (46, (.iload_n 2), 1, []), (47, .aaload, 1, []), (48, (.aload_n 1), 1, []), (49, (.getfield 27), 3, [7, 4, 1, 231]), (52, (.iload_n 2), 1, []), (53, .aaload, 1, []), (54, (.invokevirtual 39), 3, [3, 18, 3, 19, 1, 4, 3, 21, 3, 20]), (57, (.iinc 2 1), 3, []), (60, (.goto (-23)), 3, [37]), (63, .return_, 1, [])]
def co_X8_pass : List Ent := [(0, (.aload_n 0), 1, []), (1, .dup, 1, []), (2, (.getfield 32), 3, [7, 0, 1, 223]), (5, (.iconst 1), 1, []), (6, .iadd, 1, []), (7, (.putfield 32), 3, [7, 0, 1, 223]), (10, (.aload_n 0), 1, []), (11, (.getfield 21), 3, [7, 3, 1, 229]), (14, (.invokevirtual 42), 3, [3, 184, 3, 185, 1, 3, 3, 187, 3, 186]), (17, (.iconst 0), 1, []), (18, (.istore_n 1), 1, []), (19, (.iload_n 1), 1, []), (20, (.iconst 3), 1, []), (21, (.if_icmp .ge 39), 3, [60]), (24, (.aload_n 0), 1, []), (25, (.getfield 27), 3, [7, 4, 1, 231]), (28, (.iload_n 1), 1, []), (29, .aaload, 1, []), (30, (.aload_n 0), 1, []), (31, (.getfield 32), 3, [7, 0, 1, 223]), (34, (.aload_n 0), 1, []), (35, (.getfield 9), 3, [7, 1, 1, 225]), (38, (.invokevirtual 45), 3, [3, 198, 3, 199, 1, 4, 3, 201, 3, 200]), (41, (.aload_n 0), 1, []), (42, (.getfield 27), 3, [7, 4, 1, 231]), (45, (.iload_n 1), 1, []), (46, .aaload, 1, []), (47, (.aload_n 0), 1, []), (48, (.getfield 32), 3, [7, 0, 1, 223]), (51, (.invokevirtual 49), 3, [4, 2, 4, 3, 1, 4, 4, 5, 4, 4]), (54, (.iinc 1 1), 3, []), (57, (.goto (-38)), 3, [19]), (60, (.aload_n 0), 1, []), (61, (.getfield 15), 3, [7, 2, 1, 227]), (64, (.ifCond .le 19), 3, [83]), (67, (.aload_n 0), 1, []), (68, (.getfield 32), 3, [7, 0, 1, 223]), (71, (.aload_n 0), 1, []), (72, (.getfield 15), 3, [7, 2, 1, 227]), (75, .irem, 1, []), (76, (.ifCond .ne 7), 3, [83]), (79, (.iconst 1), 1, []), (80, (.goto 4), 3, [84]), (83, (.iconst 0), 1, []), (84, (.istore_n 1), 1, []), (85, (.iconst 0), 1, []), (86, (.istore_n 2), 1, []), (87, (.iload_n 2), 1, []), (88, (.iconst 3), 1, []), (89, (.if_icmp .ge 70), 3, [159]), (92, (.aload_n 0), 1, []), (93, (.getfield 27), 3, [7, 4, 1, 231]), (96, (.iload_n 2), 1, []), (97, .aaload, 1, []), (98, (.astore_n 3), 1, []), (99, (.aload_n 3), 1, []), (100, (.getfield 53), 3, [1, 0, 1, 164]), (103, (.ifCond .eq 50), 3, [153]), (106, (.aload_n 3), 1, []), (107, (.aload_n 0), 1, []), (108, (.getfield 32), 3, [7, 0, 1, 223]), (111, (.iconst 4), 1, []), (112, (.aload_n 0), 1, []), (113, (.getfield 9), 3, [7, 1, 1, 225]), (116, .imul, 1, []), (117, (.aload_n 0), 1, []), (118, (.getfield 15), 3, [7, 2, 1, 227]), (121, .iadd, 1, []), (122, (.invokevirtual 57), 3, [4, 22, 4, 23, 1, 4, 4, 25, 4, 24]), (125, (.aload_n 3), 1, []), (126, (.aload_n 0), 1, []), (127, (.getfield 21), 3, [7, 3, 1, 229]), (130, (.invokevirtual 60), 3, [4, 27, 4, 28, 1, 4, 4, 30, 4, 29]), (133, (.iload_n 1), 1, []), (134, (.ifCond .eq 19), 3, [153]), (137, (.aload_n 3), 1, []), (138, (.aload_n 0), 1, []), (139, (.getfield 21), 3, [7, 3, 1, 229]), (142, (.aload_n 0), 1, []), (143, (.getfield 32), 3, [7, 0, 1, 223]), (146, (.aload_n 0), 1, []), (147, (.getfield 9), 3, [7, 1, 1, 225]), (150, (.invokevirtual 63), 3, [4, 31, 4, 32, 1, 4, 4, 34, 4, 33]), (153, (.iinc 2 1), 3, []), (156, (.goto (-69)), 3, [87]), (159, .return_, 1, [])]
def co_X9_init : List Ent := [(0, (.aload_n 0), 1, []), (1, (.invokespecial 1), 3, [0, 1, 26, 1, 27, 1, 28]), (4, (.aload_n 0), 1, []), (5, (.new 7), 3, [1, 44, 5, 1, 29, 1, 30, 1, 2]), (8, .dup, 1, []), (9, (.invokespecial 9), 3, [1, 16, 1, 31, 1, 32, 1, 2, 1, 33]), (12, (.putfield 10), 3, [8, 0, 2, 21, 48, 47]), (15, (.aload_n 0), 1, []), (16, (.new 16), 3, [1, 46, 2, 2, 4, 2, 5, 1, 9]), (19, .dup, 1, []), (20, (.invokespecial 18), 3, [1, 18, 2, 6, 2, 7, 1, 9, 2, 8]), (23, (.putfield 19), 3, [8, 1, 2, 22, 19, 48]), (26, .return_, 1, [])]
def co_X9_place : List Ent := [(0, (.iload_n 1), 1, []), (1, (.invokestatic 23), 3, [1, 2, 149, 2, 150, 1, 1, 2, 151]), (4, (.iload_n 2), 1, []), (5, (.iconst 0), 1, []), (6, (.bipush 31), 2, []), (8, (.invokestatic 27), 3, [1, 2, 220, 2, 221, 1, 1, 2, 222]), (11, (.iload_n 3), 1, []), (12, (.iconst 0), 1, []), (13, (.bipush 31), 2, []), (15, (.invokestatic 27), 3, [1, 2, 220, 2, 221, 1, 1, 2, 222]), (18, (.iload 4), 2, []), (20, (.iconst 0), 1, []), (21, (.iconst 3), 1, []), (22, (.invokestatic 27), 3, [1, 2, 220, 2, 221, 1, 1, 2, 222]), (25, (.iload 5), 2, []), (27, (.iconst 0), 1, []), (28, (.bipush 100), 2, []), (30, (.invokestatic 27), 3, [1, 2, 220, 2, 221, 1, 1, 2, 222]), (33, (.aload_n 0), 1, []), (34, (.getfield 19), 3, [8, 1, 2, 22]), (37, (.aload_n 0), 1, []), (38, (.getfield 10), 3, [8, 0, 2, 21]), (41, (.invokevirtual 31), 3, [2, 239, 3, 0, 1, 9, 3, 2, 3, 1]), (44, (.aload_n 0), 1, []), (45, (.getfield 10), 3, [8, 0, 2, 21]), (48, (.getfield 35), 3, [7, 3, 1, 230]), (51, (.iload_n 1), 1, []), (52, (.iload_n 2), 1, []), (53, (.iload_n 3), 1, []), (54, (.iload 4), 2, []), (56, (.iload 5), 2, []), (58, (.invokestatic 39), 3, [1, 3, 46, 3, 47, 1, 17, 3, 48]), (61, (.invokevirtual 45), 3, [3, 49, 3, 50, 1, 3, 3, 52, 3, 51]), (64, .ireturn, 1, [])]
def co_X9_setVelocity : List Ent := [(0, (.iload_n 1), 1, []), (1, (.invokestatic 23), 3, [1, 2, 149, 2, 150, 1, 1, 2, 151]), (4, (.iload_n 2), 1, []), (5, (.bipush (-3)), 2, []), (7, (.iconst 3), 1, []), (8, (.invokestatic 27), 3, [1, 2, 220, 2, 221, 1, 1, 2, 222]), (11, (.iload_n 3), 1, []), (12, (.bipush (-3)), 2, []), (14, (.iconst 3), 1, []), (15, (.invokestatic 27), 3, [1, 2, 220, 2, 221, 1, 1, 2, 222]), (18, (.aload_n 0), 1, []), (19, (.iload_n 1), 1, []), (20, (.invokevirtual 51), 3, [3, 61, 3, 63, 1, 1, 3, 64, 0, 5]), (23, (.aload_n 0), 1, []), (24, (.getfield 19), 3, [8, 1, 2, 22]), (27, (.aload_n 0), 1, []), (28, (.getfield 10), 3, [8, 0, 2, 21]), (31, (.invokevirtual 31), 3, [2, 239, 3, 0, 1, 9, 3, 2, 3, 1]), (34, (.aload_n 0), 1, []), (35, (.getfield 10), 3, [8, 0, 2, 21]), (38, (.getfield 35), 3, [7, 3, 1, 230]), (41, (.iload_n 1), 1, []), (42, (.iload_n 2), 1, []), (43, (.iload_n 3), 1, []), (44, (.invokevirtual 54), 3, [3, 82, 3, 83, 1, 3, 3, 85, 3, 84]), (47, .ireturn, 1, [])]
def co_X9_setHealth : List Ent := [(0, (.iload_n 1), 1, []), (1, (.invokestatic 23), 3, [1, 2, 149, 2, 150, 1, 1, 2, 151]), (4, (.iload_n 2), 1, []), (5, (.iconst 0), 1, []), (6, (.bipush 100), 2, []), (8, (.invokestatic 27), 3, [1, 2, 220, 2, 221, 1, 1, 2, 222]), (11, (.aload_n 0), 1, []), (12, (.iload_n 1), 1, []), (13, (.invokevirtual 51), 3, [3, 61, 3, 63, 1, 1, 3, 64, 0, 5]), (16, (.aload_n 0), 1, []), (17, (.getfield 19), 3, [8, 1, 2, 22]), (20, (.aload_n 0), 1, []), (21, (.getfield 10), 3, [8, 0, 2, 21]), (24, (.invokevirtual 31), 3, [2, 239, 3, 0, 1, 9, 3, 2, 3, 1]), (27, (.aload_n 0), 1, []), (28, (.getfield 10), 3, [8, 0, 2, 21]), (31, (.getfield 35), 3, [7, 3, 1, 230]), (34, (.iload_n 1), 1, []), (35, (.iload_n 2), 1, []), (36, (.invokevirtual 58), 3, [3, 93, 3, 94, 1, 3, 3, 96, 3, 95]), (39, .ireturn, 1, [])]
def co_X9_destroy : List Ent := [(0, (.iload_n 1), 1, []), (1, (.invokestatic 23), 3, [1, 2, 149, 2, 150, 1, 1, 2, 151]), (4, (.aload_n 0), 1, []), (5, (.iload_n 1), 1, []), (6, (.invokevirtual 51), 3, [3, 61, 3, 63, 1, 1, 3, 64, 0, 5]), (9, (.aload_n 0), 1, []), (10, (.getfield 19), 3, [8, 1, 2, 22]), (13, (.aload_n 0), 1, []), (14, (.getfield 10), 3, [8, 0, 2, 21]), (17, (.invokevirtual 31), 3, [2, 239, 3, 0, 1, 9, 3, 2, 3, 1]), (20, (.aload_n 0), 1, []), (21, (.getfield 10), 3, [8, 0, 2, 21]), (24, (.getfield 35), 3, [7, 3, 1, 230]), (27, (.iload_n 1), 1, []), (28, (.invokevirtual 62), 3, [3, 105, 3, 106, 1, 3, 3, 108, 3, 107]), (31, .ireturn, 1, [])]
def co_X9_entity : List Ent := [(0, (.iload_n 1), 1, []), (1, (.invokestatic 23), 3, [1, 2, 149, 2, 150, 1, 1, 2, 151]), (4, (.iload_n 2), 1, []), (5, (.iconst 0), 1, []), (6, (.bipush 6), 2, []), (8, (.invokestatic 27), 3, [1, 2, 220, 2, 221, 1, 1, 2, 222]), (11, (.aload_n 0), 1, []), (12, (.getfield 10), 3, [8, 0, 2, 21]), (15, (.getfield 35), 3, [7, 3, 1, 230]), (18, (.iload_n 1), 1, []), (19, (.iload_n 2), 1, []), (20, (.invokevirtual 66), 3, [2, 38, 2, 39, 1, 3, 2, 41, 2, 40]), (23, .ireturn, 1, [])]
def co_X9_connect : List Ent := [(0, (.aload_n 0), 1, []), (1, (.iload_n 1), 1, []), (2, (.invokevirtual 69), 3, [3, 123, 3, 125, 1, 1, 3, 126, 0, 6]), (5, (.astore 6), 2, []), (7, (.iload_n 2), 1, []), (8, (.iconst 0), 1, []), (9, (.bipush 31), 2, []), (11, (.invokestatic 27), 3, [1, 2, 220, 2, 221, 1, 1, 2, 222]), (14, (.iload_n 3), 1, []), (15, (.iconst 0), 1, []), (16, (.bipush 31), 2, []), (18, (.invokestatic 27), 3, [1, 2, 220, 2, 221, 1, 1, 2, 222]), (21, (.iload 4), 2, []), (23, (.iconst 1), 1, []), (24, (.bipush 31), 2, []), (26, (.invokestatic 27), 3, [1, 2, 220, 2, 221, 1, 1, 2, 222]), (29, (.iload 5), 2, []), (31, (.bipush 12), 2, []), (33, (.bipush 64), 2, []), (35, (.invokestatic 27), 3, [1, 2, 220, 2, 221, 1, 1, 2, 222]), (38, (.aload_n 0), 1, []), (39, (.getfield 19), 3, [8, 1, 2, 22]), (42, (.aload_n 0), 1, []), (43, (.getfield 10), 3, [8, 0, 2, 21]), (46, (.invokevirtual 31), 3, [2, 239, 3, 0, 1, 9, 3, 2, 3, 1]), (49, (.aload 6), 2, []), (51, (.getfield 73), 3, [1, 0, 1, 165]), (54, (.istore 7), 2, []), (56, (.aload 6), 2, []), (58, (.invokevirtual 79), 3, [3, 128, 3, 129, 1, 4, 3, 131, 3, 130]), (61, (.aload 6), 2, []), (63, (.iconst 1), 1, []), (64, (.putfield 73), 3, [1, 0, 1, 165]), (67, (.aload 6), 2, []), (69, (.iload_n 2), 1, []), (70, (.iload_n 3), 1, []), (71, (.iload 4), 2, []), (73, (.invokevirtual 82), 3, [3, 136, 3, 23, 1, 4, 3, 25, 3, 24]), (76, (.aload 6), 2, []), (78, (.iload 5), 2, []), (80, (.putfield 85), 3, [1, 4, 1, 173]), (83, (.iload 7), 2, []), (85, .ireturn, 1, [])]
def co_X9_look : List Ent := [(0, (.aload_n 0), 1, []), (1, (.iload_n 1), 1, []), (2, (.invokevirtual 69), 3, [3, 123, 3, 125, 1, 1, 3, 126, 0, 6]), (5, (.astore 5), 2, []), (7, (.iload_n 2), 1, []), (8, (.iconst 0), 1, []), (9, (.bipush 31), 2, []), (11, (.invokestatic 27), 3, [1, 2, 220, 2, 221, 1, 1, 2, 222]), (14, (.iload_n 3), 1, []), (15, (.iconst 0), 1, []), (16, (.bipush 31), 2, []), (18, (.invokestatic 27), 3, [1, 2, 220, 2, 221, 1, 1, 2, 222]), (21, (.iload 4), 2, []), (23, (.iconst 1), 1, []), (24, (.bipush 31), 2, []), (26, (.invokestatic 27), 3, [1, 2, 220, 2, 221, 1, 1, 2, 222]), (29, (.aload 5), 2, []), (31, (.invokestatic 89), 3, [1, 3, 144, 3, 145, 1, 1, 3, 146]), (34, (.aload_n 0), 1, []), (35, (.getfield 19), 3, [8, 1, 2, 22]), (38, (.aload_n 0), 1, []), (39, (.getfield 10), 3, [8, 0, 2, 21]), (42, (.invokevirtual 31), 3, [2, 239, 3, 0, 1, 9, 3, 2, 3, 1]), (45, (.aload 5), 2, []), (47, (.iload_n 2), 1, []), (48, (.iload_n 3), 1, []), (49, (.iload 4), 2, []), (51, (.invokevirtual 82), 3, [3, 136, 3, 23, 1, 4, 3, 25, 3, 24]), (54, (.aload 5), 2, []), (56, (.aload_n 0), 1, []), (57, (.getfield 10), 3, [8, 0, 2, 21]), (60, (.getfield 35), 3, [7, 3, 1, 230]), (63, (.invokevirtual 93), 3, [3, 148, 3, 149, 1, 4, 3, 151, 3, 150]), (66, .ireturn, 1, [])]
def co_X9_disconnect : List Ent := [(0, (.aload_n 0), 1, []), (1, (.iload_n 1), 1, []), (2, (.invokevirtual 69), 3, [3, 123, 3, 125, 1, 1, 3, 126, 0, 6]), (5, (.astore_n 2), 1, []), (6, (.aload_n 2), 1, []), (7, (.invokestatic 89), 3, [1, 3, 144, 3, 145, 1, 1, 3, 146]), (10, (.aload_n 0), 1, []), (11, (.getfield 19), 3, [8, 1, 2, 22]), (14, (.aload_n 0), 1, []), (15, (.getfield 10), 3, [8, 0, 2, 21]), (18, (.invokevirtual 31), 3, [2, 239, 3, 0, 1, 9, 3, 2, 3, 1]), (21, (.aload_n 2), 1, []), (22, (.getfield 97), 3, [1, 7, 1, 179]), (25, (.iconst 0), 1, []), (26, .iaload, 1, []), (27, (.istore_n 3), 1, []), (28, (.aload_n 2), 1, []), (29, (.invokevirtual 79), 3, [3, 128, 3, 129, 1, 4, 3, 131, 3, 130]), (32, (.iload_n 3), 1, []), (33, .ireturn, 1, [])]
def co_X9_setTimes : List Ent := [(0, (.iload_n 1), 1, []), (1, (.iconst 1), 1, []), (2, (.bipush 10), 2, []), (4, (.invokestatic 27), 3, [1, 2, 220, 2, 221, 1, 1, 2, 222]), (7, (.iload_n 2), 1, []), (8, (.iconst 1), 1, []), (9, (.bipush 10), 2, []), (11, (.invokestatic 27), 3, [1, 2, 220, 2, 221, 1, 1, 2, 222]), (14, (.aload_n 0), 1, []), (15, (.getfield 19), 3, [8, 1, 2, 22]), (18, (.aload_n 0), 1, []), (19, (.getfield 10), 3, [8, 0, 2, 21]), (22, (.invokevirtual 31), 3, [2, 239, 3, 0, 1, 9, 3, 2, 3, 1]), (25, (.aload_n 0), 1, []), (26, (.getfield 10), 3, [8, 0, 2, 21]), (29, (.getfield 101), 3, [7, 1, 1, 226]), (32, (.istore_n 3), 1, []), (33, (.aload_n 0), 1, []), (34, (.getfield 10), 3, [8, 0, 2, 21]), (37, (.iload_n 1), 1, []), (38, (.putfield 101), 3, [7, 1, 1, 226]), (41, (.aload_n 0), 1, []), (42, (.getfield 10), 3, [8, 0, 2, 21]), (45, (.iload_n 2), 1, []), (46, (.putfield 104), 3, [7, 2, 1, 228]), (49, (.iload_n 3), 1, []), (50, .ireturn, 1, [])]
def co_X9_lose : List Ent := [(0, (.aload_n 0), 1, []), (1, (.iload_n 1), 1, []), (2, (.invokevirtual 69), 3, [3, 123, 3, 125, 1, 1, 3, 126, 0, 6]), (5, (.astore 4), 2, []), (7, (.iload_n 2), 1, []), (8, (.iconst 0), 1, []), (9, (.bipush 50), 2, []), (11, (.invokestatic 27), 3, [1, 2, 220, 2, 221, 1, 1, 2, 222]), (14, (.iload_n 3), 1, []), (15, (.iconst 0), 1, []), (16, (.bipush 50), 2, []), (18, (.invokestatic 27), 3, [1, 2, 220, 2, 221, 1, 1, 2, 222]), (21, (.aload 4), 2, []), (23, (.invokestatic 89), 3, [1, 3, 144, 3, 145, 1, 1, 3, 146]), (26, (.aload_n 0), 1, []), (27, (.getfield 19), 3, [8, 1, 2, 22]), (30, (.aload_n 0), 1, []), (31, (.getfield 10), 3, [8, 0, 2, 21]), (34, (.invokevirtual 31), 3, [2, 239, 3, 0, 1, 9, 3, 2, 3, 1]), (37, (.aload 4), 2, []), (39, (.getfield 107), 3, [1, 5, 1, 175]), (42, (.istore 5), 2, []), (44, (.aload 4), 2, []), (46, (.iload_n 2), 1, []), (47, (.putfield 107), 3, [1, 5, 1, 175]), (50, (.aload 4), 2, []), (52, (.iload_n 3), 1, []), (53, (.putfield 110), 3, [1, 6, 1, 177]), (56, (.iload 5), 2, []), (58, .ireturn, 1, [])]
def co_X9_tick : List Ent := [(0, (.iload_n 1), 1, []), (1, (.iconst 1), 1, []), (2, (.bipush 50), 2, []), (4, (.invokestatic 27), 3, [1, 2, 220, 2, 221, 1, 1, 2, 222]), (7, (.aload_n 0), 1, []), (8, (.getfield 19), 3, [8, 1, 2, 22]), (11, (.aload_n 0), 1, []), (12, (.getfield 10), 3, [8, 0, 2, 21]), (15, (.invokevirtual 31), 3, [2, 239, 3, 0, 1, 9, 3, 2, 3, 1]), (18, (.iconst 0), 1, []), (19, (.istore_n 2), 1, []), (20, (.iload_n 2), 1, []), (21, (.iload_n 1), 1, []), (22, (.if_icmp .ge 16), 3, [38]), (25, (.aload_n 0), 1, []), (26, (.getfield 10), 3, [8, 0, 2, 21]), (29, (.invokevirtual 113), 3, [3, 180, 3, 181, 1, 2, 3, 183, 3, 182]), (32, (.iinc 2 1), 3, []), (35, (.goto (-15)), 3, [20]), (38, (.aload_n 0), 1, []), (39, (.getfield 10), 3, [8, 0, 2, 21]), (42, (.getfield 116), 3, [7, 0, 1, 224]), (45, .ireturn, 1, [])]
def co_X9_time : List Ent := [(0, (.aload_n 0), 1, []), (1, (.getfield 10), 3, [8, 0, 2, 21]), (4, (.getfield 116), 3, [7, 0, 1, 224]), (7, .ireturn, 1, [])]
def co_X9_copy : List Ent := [(0, (.aload_n 0), 1, []), (1, (.iload_n 1), 1, []), (2, (.invokevirtual 69), 3, [3, 123, 3, 125, 1, 1, 3, 126, 0, 6]), (5, (.astore 4), 2, []), (7, (.iload_n 2), 1, []), (8, (.invokestatic 23), 3, [1, 2, 149, 2, 150, 1, 1, 2, 151]), (11, (.iload_n 3), 1, []), (12, (.iconst 0), 1, []), (13, (.bipush 6), 2, []), (15, (.invokestatic 27), 3, [1, 2, 220, 2, 221, 1, 1, 2, 222]), (18, (.aload 4), 2, []), (20, (.getfield 119), 3, [1, 11, 1, 184]), (23, (.iload_n 2), 1, []), (24, (.iload_n 3), 1, []), (25, (.invokevirtual 123), 3, [2, 88, 2, 89, 1, 5, 2, 91, 2, 90]), (28, .ireturn, 1, [])]
def co_X9_kept : List Ent := [(0, (.aload_n 0), 1, []), (1, (.iload_n 1), 1, []), (2, (.invokevirtual 69), 3, [3, 123, 3, 125, 1, 1, 3, 126, 0, 6]), (5, (.astore 4), 2, []), (7, (.iload_n 2), 1, []), (8, (.invokestatic 23), 3, [1, 2, 149, 2, 150, 1, 1, 2, 151]), (11, (.iload_n 3), 1, []), (12, (.iconst 0), 1, []), (13, (.bipush 8), 2, []), (15, (.invokestatic 27), 3, [1, 2, 220, 2, 221, 1, 1, 2, 222]), (18, (.aload 4), 2, []), (20, (.invokestatic 89), 3, [1, 3, 144, 3, 145, 1, 1, 3, 146]), (23, (.aload 4), 2, []), (25, (.aload_n 0), 1, []), (26, (.getfield 10), 3, [8, 0, 2, 21]), (29, (.getfield 35), 3, [7, 3, 1, 230]), (32, (.iload_n 2), 1, []), (33, (.iload_n 3), 1, []), (34, (.invokevirtual 126), 3, [2, 98, 2, 99, 1, 4, 2, 101, 2, 100]), (37, .ireturn, 1, [])]
def co_X9_count : List Ent := [(0, (.aload_n 0), 1, []), (1, (.iload_n 1), 1, []), (2, (.invokevirtual 69), 3, [3, 123, 3, 125, 1, 1, 3, 126, 0, 6]), (5, (.astore_n 3), 1, []), (6, (.iload_n 2), 1, []), (7, (.iconst 0), 1, []), (8, (.bipush 8), 2, []), (10, (.invokestatic 27), 3, [1, 2, 220, 2, 221, 1, 1, 2, 222]), (13, (.aload_n 3), 1, []), (14, (.iload_n 2), 1, []), (15, (.invokevirtual 130), 3, [2, 57, 2, 58, 1, 4, 2, 60, 2, 59]), (18, .ireturn, 1, [])]
def co_X9_stale : List Ent := [(0, (.aload_n 0), 1, []), (1, (.iload_n 1), 1, []), (2, (.invokevirtual 69), 3, [3, 123, 3, 125, 1, 1, 3, 126, 0, 6]), (5, (.astore_n 2), 1, []), (6, (.aload_n 2), 1, []), (7, (.invokestatic 89), 3, [1, 3, 144, 3, 145, 1, 1, 3, 146]), (10, (.aload_n 2), 1, []), (11, (.aload_n 0), 1, []), (12, (.getfield 10), 3, [8, 0, 2, 21]), (15, (.getfield 35), 3, [7, 3, 1, 230]), (18, (.invokevirtual 133), 3, [2, 61, 2, 62, 1, 4, 2, 64, 2, 63]), (21, .ireturn, 1, [])]
def co_X9_packet : List Ent := [(0, (.aload_n 0), 1, []), (1, (.iload_n 1), 1, []), (2, (.invokevirtual 69), 3, [3, 123, 3, 125, 1, 1, 3, 126, 0, 6]), (5, (.iload_n 2), 1, []), (6, (.invokestatic 136), 3, [1, 4, 95, 4, 96, 1, 1, 4, 97]), (9, (.astore 4), 2, []), (11, (.iload_n 3), 1, []), (12, (.iconst 0), 1, []), (13, (.iconst 3), 1, []), (14, (.invokestatic 27), 3, [1, 2, 220, 2, 221, 1, 1, 2, 222]), (17, (.aload 4), 2, []), (19, (.iload_n 3), 1, []), (20, (.aload_n 0), 1, []), (21, (.getfield 10), 3, [8, 0, 2, 21]), (24, (.getfield 116), 3, [7, 0, 1, 224]), (27, (.invokevirtual 140), 3, [2, 131, 2, 132, 1, 7, 2, 134, 2, 133]), (30, .ireturn, 1, [])]
def co_X9_entry : List Ent := [(0, (.aload_n 0), 1, []), (1, (.iload_n 1), 1, []), (2, (.invokevirtual 69), 3, [3, 123, 3, 125, 1, 1, 3, 126, 0, 6]), (5, (.iload_n 2), 1, []), (6, (.invokestatic 136), 3, [1, 4, 95, 4, 96, 1, 1, 4, 97]), (9, (.astore 5), 2, []), (11, (.iload_n 3), 1, []), (12, (.iconst 0), 1, []), (13, (.aload 5), 2, []), (15, (.getfield 143), 3, [3, 2, 1, 96]), (18, (.iconst 1), 1, []), (19, .isub, 1, []), (20, (.invokestatic 27), 3, [1, 2, 220, 2, 221, 1, 1, 2, 222]), (23, (.iload 4), 2, []), (25, (.iconst 0), 1, []), (26, (.iconst 4), 1, []), (27, (.invokestatic 27), 3, [1, 2, 220, 2, 221, 1, 1, 2, 222]), (30, (.aload 5), 2, []), (32, (.iload_n 3), 1, []), (33, (.iload 4), 2, []), (35, (.invokevirtual 146), 3, [2, 135, 2, 136, 1, 7, 2, 138, 2, 137]), (38, .ireturn, 1, [])]
def co_X9_price : List Ent := [(0, (.aload_n 0), 1, []), (1, (.iload_n 1), 1, []), (2, (.invokevirtual 69), 3, [3, 123, 3, 125, 1, 1, 3, 126, 0, 6]), (5, (.astore_n 3), 1, []), (6, (.iload_n 2), 1, []), (7, (.invokestatic 23), 3, [1, 2, 149, 2, 150, 1, 1, 2, 151]), (10, (.aload_n 3), 1, []), (11, (.invokestatic 89), 3, [1, 3, 144, 3, 145, 1, 1, 3, 146]), (14, (.aload_n 3), 1, []), (15, (.aload_n 0), 1, []), (16, (.getfield 10), 3, [8, 0, 2, 21]), (19, (.getfield 35), 3, [7, 3, 1, 230]), (22, (.iload_n 2), 1, []), (23, (.invokevirtual 149), 3, [2, 102, 2, 103, 1, 4, 2, 105, 2, 104]), (26, .ireturn, 1, [])]
def co_X9_undo : List Ent := [(0, (.aload_n 0), 1, []), (1, (.getfield 19), 3, [8, 1, 2, 22]), (4, (.getfield 153), 3, [6, 0, 2, 14]), (7, (.ifCond .ne 13), 3, [20]), (10, (.new 156), 3, [0, 3, 6]), (20, (.aload_n 0), 1, []), (21, (.getfield 19), 3, [8, 1, 2, 22]), (24, (.aload_n 0), 1, []), (25, (.getfield 10), 3, [8, 0, 2, 21]), (28, (.invokevirtual 163), 3, [4, 121, 4, 122, 1, 9, 4, 124, 4, 123]), (31, (.aload_n 0), 1, []), (32, (.getfield 19), 3, [8, 1, 2, 22]), (35, (.getfield 153), 3, [6, 0, 2, 14]), (38, .ireturn, 1, [])]
def co_X9_digest : List Ent := [(0, (.ldc2_w 166), 3, [2, 36, 18582]), (3, (.lstore_n 1), 1, []), (4, (.ldc2_w 168), 3, [2, 37, 31]), (7, (.lload_n 1), 1, []), (8, .lmul, 1, []), (9, (.aload_n 0), 1, []), (10, (.getfield 19), 3, [8, 1, 2, 22]), (13, (.getfield 153), 3, [6, 0, 2, 14]), (16, .i2l, 1, []), (17, .ladd, 1, []), (18, (.lstore_n 1), 1, []), (19, (.ldc2_w 168), 3, [2, 37, 31]), (22, (.lload_n 1), 1, []), (23, .lmul, 1, []), (24, (.aload_n 0), 1, []), (25, (.getfield 10), 3, [8, 0, 2, 21]), (28, (.getfield 116), 3, [7, 0, 1, 224]), (31, .i2l, 1, []), (32, .ladd, 1, []), (33, (.lstore_n 1), 1, []), (34, (.ldc2_w 168), 3, [2, 37, 31]), (37, (.lload_n 1), 1, []), (38, .lmul, 1, []), (39, (.aload_n 0), 1, []), (40, (.getfield 10), 3, [8, 0, 2, 21]), (43, (.getfield 101), 3, [7, 1, 1, 226]), (46, .i2l, 1, []), (47, .ladd, 1, []), (48, (.lstore_n 1), 1, []), (49, (.ldc2_w 168), 3, [2, 37, 31]), (52, (.lload_n 1), 1, []), (53, .lmul, 1, []), (54, (.aload_n 0), 1, []), (55, (.getfield 10), 3, [8, 0, 2, 21]), (58, (.getfield 104), 3, [7, 2, 1, 228]), (61, .i2l, 1, []), (62, .ladd, 1, []), (63, (.lstore_n 1), 1, []), (64, (.iconst 0), 1, []), (65, (.istore_n 3), 1, []), (66, (.iload_n 3), 1, []), (67, (.bipush 16), 2, []), (69, (.if_icmp .ge 46), 3, [115]), (72, (.iconst 0), 1, []), (73, (.istore 4), 2, []), (75, (.iload 4), 2, []), (77, (.bipush 6), 2, []), (79, (.if_icmp .gt 30), 3, [109]), (82, (.ldc2_w 168), 3, [2, 37, 31]), (85, (.lload_n 1), 1, []), (86, .lmul, 1, []), (87, (.aload_n 0), 1, []), (88, (.getfield 10), 3, [8, 0, 2, 21]), (91, (.getfield 35), 3, [7, 3, 1, 230]), (94, (.iload_n 3), 1, []), (95, (.iload 4), 2, []), (97, (.invokevirtual 66), 3, [2, 38, 2, 39, 1, 3, 2, 41, 2, 40]), (100, .i2l, 1, []), (101, .ladd, 1, []), (102, (.lstore_n 1), 1, []), (103, (.iinc 4 1), 3, []), (106, (.goto (-31)), 3, [75]), (109, (.iinc 3 1), 3, []), (112, (.goto (-46)), 3, [66]), (115, (.iconst 0), 1, []), (116, (.istore_n 3), 1, []), (117, (.iload_n 3), 1, []), (118, (.iconst 3), 1, []), (119, (.if_icmp .ge 24), 3, [143]), (122, (.aload_n 0), 1, []), (123, (.lload_n 1), 1, []), (124, (.aload_n 0), 1, []), (125, (.getfield 10), 3, [8, 0, 2, 21]), (128, (.getfield 170), 3, [7, 4, 1, 232]), (131, (.iload_n 3), 1, []), (132, .aaload, 1, []), (133, (.invokevirtual 174), 3, [2, 53, 2, 55, 1, 1, 2, 56, 0, 0]), (136, (.lstore_n 1), 1, []), (137, (.iinc 3 1), 3, []), (140, (.goto (-23)), 3, [117]), (143, (.lload_n 1), 1, []), (144, .lreturn, 1, [])]
def co_X9_hashClient : List Ent := [(0, (.ldc2_w 168), 3, [2, 37, 31]), (3, (.lload_n 1), 1, []), (4, .lmul, 1, []), (5, (.aload_n 3), 1, []), (6, (.getfield 73), 3, [1, 0, 1, 165]), (9, (.ifCond .eq 7), 3, [16]), (12, (.iconst 1), 1, []), (13, (.goto 4), 3, [17]), (16, (.iconst 0), 1, []), (17, .i2l, 1, []), (18, .ladd, 1, []), (19, (.lstore 4), 2, []), (21, (.iconst 0), 1, []), (22, (.istore 6), 2, []), (24, (.iload 6), 2, []), (26, (.bipush 8), 2, []), (28, (.if_icmp .gt 25), 3, [53]), (31, (.ldc2_w 168), 3, [2, 37, 31]), (34, (.lload 4), 2, []), (36, .lmul, 1, []), (37, (.aload_n 3), 1, []), (38, (.iload 6), 2, []), (40, (.invokevirtual 130), 3, [2, 57, 2, 58, 1, 4, 2, 60, 2, 59]), (43, .i2l, 1, []), (44, .ladd, 1, []), (45, (.lstore 4), 2, []), (47, (.iinc 6 1), 3, []), (50, (.goto (-26)), 3, [24]), (53, (.aload_n 3), 1, []), (54, (.getfield 73), 3, [1, 0, 1, 165]), (57, (.ifCond .eq 108), 3, [165]), (60, (.ldc2_w 168), 3, [2, 37, 31]), (63, (.lload 4), 2, []), (65, .lmul, 1, []), (66, (.aload_n 3), 1, []), (67, (.getfield 178), 3, [1, 1, 1, 167]), (70, .i2l, 1, []), (71, .ladd, 1, []), (72, (.lstore 4), 2, []), (74, (.ldc2_w 168), 3, [2, 37, 31]), (77, (.lload 4), 2, []), (79, .lmul, 1, []), (80, (.aload_n 3), 1, []), (81, (.getfield 181), 3, [1, 2, 1, 169]), (84, .i2l, 1, []), (85, .ladd, 1, []), (86, (.lstore 4), 2, []), (88, (.ldc2_w 168), 3, [2, 37, 31]), (91, (.lload 4), 2, []), (93, .lmul, 1, []), (94, (.aload_n 3), 1, []), (95, (.getfield 184), 3, [1, 3, 1, 171]), (98, .i2l, 1, []), (99, .ladd, 1, []), (100, (.lstore 4), 2, []), (102, (.ldc2_w 168), 3, [2, 37, 31]), (105, (.lload 4), 2, []), (107, .lmul, 1, []), (108, (.aload_n 3), 1, []), (109, (.getfield 85), 3, [1, 4, 1, 173]), (112, .i2l, 1, []), (113, .ladd, 1, []), (114, (.lstore 4), 2, []), (116, (.ldc2_w 168), 3, [2, 37, 31]), (119, (.lload 4), 2, []), (121, .lmul, 1, []), (122, (.aload_n 3), 1, []), (123, (.getfield 107), 3, [1, 5, 1, 175]), (126, .i2l, 1, []), (127, .ladd, 1, []), (128, (.lstore 4), 2, []), (130, (.ldc2_w 168), 3, [2, 37, 31]), (133, (.lload 4), 2, []), (135, .lmul, 1, []), (136, (.aload_n 3), 1, []), (137, (.getfield 110), 3, [1, 6, 1, 177]), (140, .i2l, 1, []), (141, .ladd, 1, []), (142, (.lstore 4), 2, []), (144, (.ldc2_w 168), 3, [2, 37, 31]), (147, (.lload 4), 2, []), (149, .lmul, 1, []), (150, (.aload_n 3), 1, []), (151, (.aload_n 0), 1, []), (152, (.getfield 10), 3, [8, 0, 2, 21]), (155, (.getfield 35), 3, [7, 3, 1, 230]), (158, (.invokevirtual 133), 3, [2, 61, 2, 62, 1, 4, 2, 64, 2, 63]), (161, .i2l, 1, []), (162, .ladd, 1, []), (163, (.lstore 4), 2, []), (165, (.iconst 0), 1, []), (166, (.istore 6), 2, []), (168, (.iload 6), 2, []), (170, (.bipush 16), 2, []), (172, (.if_icmp .ge 20), 3, [192]), (175, (.aload_n 0), 1, []), (176, (.lload 4), 2, []), (178, (.aload_n 3), 1, []), (179, (.iload 6), 2, []), (181, (.invokevirtual 187), 3, [2, 84, 2, 86, 1, 1, 2, 87, 0, 1]), (184, (.lstore 4), 2, []), (186, (.iinc 6 1), 3, []), (189, (.goto (-21)), 3, [168]), (192, (.iconst 0), 1, []), (193, (.istore 6), 2, []), (195, (.iload 6), 2, []), (197, (.aload_n 3), 1, []), (198, (.getfield 191), 3, [1, 12, 1, 186]), (201, (.getfield 195), 3, [4, 0, 1, 135]), (204, (.if_icmp .ge 27), 3, [231]), (207, (.aload_n 0), 1, []), (208, (.lload 4), 2, []), (210, (.aload_n 3), 1, []), (211, (.getfield 191), 3, [1, 12, 1, 186]), (214, (.getfield 198), 3, [4, 1, 1, 138]), (217, (.iload 6), 2, []), (219, .aaload, 1, []), (220, (.invokevirtual 202), 3, [2, 127, 2, 129, 1, 1, 2, 130, 0, 2]), (223, (.lstore 4), 2, []), (225, (.iinc 6 1), 3, []), (228, (.goto (-33)), 3, [195]), (231, (.lload 4), 2, []), (233, .lreturn, 1, [])]
def co_X9_hashClientEntity : List Ent := [(0, (.lload_n 1), 1, []), (1, (.lstore 5), 2, []), (3, (.iconst 0), 1, []), (4, (.istore 7), 2, []), (6, (.iload 7), 2, []), (8, (.bipush 6), 2, []), (10, (.if_icmp .gt 30), 3, [40]), (13, (.ldc2_w 168), 3, [2, 37, 31]), (16, (.lload 5), 2, []), (18, .lmul, 1, []), (19, (.aload_n 3), 1, []), (20, (.getfield 119), 3, [1, 11, 1, 184]), (23, (.iload 4), 2, []), (25, (.iload 7), 2, []), (27, (.invokevirtual 123), 3, [2, 88, 2, 89, 1, 5, 2, 91, 2, 90]), (30, .i2l, 1, []), (31, .ladd, 1, []), (32, (.lstore 5), 2, []), (34, (.iinc 7 1), 3, []), (37, (.goto (-31)), 3, [6]), (40, (.aload_n 3), 1, []), (41, (.getfield 73), 3, [1, 0, 1, 165]), (44, (.ifCond .eq 67), 3, [111]), (47, (.iconst 0), 1, []), (48, (.istore 7), 2, []), (50, (.iload 7), 2, []), (52, (.bipush 8), 2, []), (54, (.if_icmp .gt 34), 3, [88]), (57, (.ldc2_w 168), 3, [2, 37, 31]), (60, (.lload 5), 2, []), (62, .lmul, 1, []), (63, (.aload_n 3), 1, []), (64, (.aload_n 0), 1, []), (65, (.getfield 10), 3, [8, 0, 2, 21]), (68, (.getfield 35), 3, [7, 3, 1, 230]), (71, (.iload 4), 2, []), (73, (.iload 7), 2, []), (75, (.invokevirtual 126), 3, [2, 98, 2, 99, 1, 4, 2, 101, 2, 100]), (78, .i2l, 1, []), (79, .ladd, 1, []), (80, (.lstore 5), 2, []), (82, (.iinc 7 1), 3, []), (85, (.goto (-35)), 3, [50]), (88, (.ldc2_w 168), 3, [2, 37, 31]), (91, (.lload 5), 2, []), (93, .lmul, 1, []), (94, (.aload_n 3), 1, []), (95, (.aload_n 0), 1, []), (96, (.getfield 10), 3, [8, 0, 2, 21]), (99, (.getfield 35), 3, [7, 3, 1, 230]), (102, (.iload 4), 2, []), (104, (.invokevirtual 149), 3, [2, 102, 2, 103, 1, 4, 2, 105, 2, 104]), (107, .i2l, 1, []), (108, .ladd, 1, []), (109, (.lstore 5), 2, []), (111, (.lload 5), 2, []), (113, .lreturn, 1, [])]
def co_X9_hashPacket : List Ent := [(0, (.lload_n 1), 1, []), (1, (.lstore 4), 2, []), (3, (.iconst 0), 1, []), (4, (.istore 6), 2, []), (6, (.iload 6), 2, []), (8, (.iconst 3), 1, []), (9, (.if_icmp .gt 32), 3, [41]), (12, (.ldc2_w 168), 3, [2, 37, 31]), (15, (.lload 4), 2, []), (17, .lmul, 1, []), (18, (.aload_n 3), 1, []), (19, (.iload 6), 2, []), (21, (.aload_n 0), 1, []), (22, (.getfield 10), 3, [8, 0, 2, 21]), (25, (.getfield 116), 3, [7, 0, 1, 224]), (28, (.invokevirtual 140), 3, [2, 131, 2, 132, 1, 7, 2, 134, 2, 133]), (31, .i2l, 1, []), (32, .ladd, 1, []), (33, (.lstore 4), 2, []), (35, (.iinc 6 1), 3, []), (38, (.goto (-32)), 3, [6]), (41, (.iconst 0), 1, []), (42, (.istore 6), 2, []), (44, (.iload 6), 2, []), (46, (.aload_n 3), 1, []), (47, (.getfield 143), 3, [3, 2, 1, 96]), (50, (.if_icmp .ge 42), 3, [92]), (53, (.iconst 0), 1, []), (54, (.istore 7), 2, []), (56, (.iload 7), 2, []), (58, (.iconst 4), 1, []), (59, (.if_icmp .gt 27), 3, [86]), (62, (.ldc2_w 168), 3, [2, 37, 31]), (65, (.lload 4), 2, []), (67, .lmul, 1, []), (68, (.aload_n 3), 1, []), (69, (.iload 6), 2, []), (71, (.iload 7), 2, []), (73, (.invokevirtual 146), 3, [2, 135, 2, 136, 1, 7, 2, 138, 2, 137]), (76, .i2l, 1, []), (77, .ladd, 1, []), (78, (.lstore 4), 2, []), (80, (.iinc 7 1), 3, []), (83, (.goto (-27)), 3, [56]), (86, (.iinc 6 1), 3, []), (89, (.goto (-45)), 3, [44]), (92, (.lload 4), 2, []), (94, .lreturn, 1, [])]
def co_X9_checkEntity : List Ent := [(0, (.iload_n 0), 1, []), (1, (.ifCond .lt 9), 3, [10]), (4, (.iload_n 0), 1, []), (5, (.bipush 16), 2, []), (7, (.if_icmp .lt 13), 3, [20]), (10, (.new 206), 3, [0, 1, 0]), (20, .return_, 1, [])]
def co_X9_checkRange : List Ent := [(0, (.iload_n 0), 1, []), (1, (.iload_n 1), 1, []), (2, (.if_icmp .lt 8), 3, [10]), (5, (.iload_n 0), 1, []), (6, (.iload_n 2), 1, []), (7, (.if_icmp .le 13), 3, [20]), (10, (.new 211), 3, [0, 2, 1]), (20, .return_, 1, [])]
def co_X9_checkExists : List Ent := [(0, (.aload_n 0), 1, []), (1, (.getfield 10), 3, [8, 0, 2, 21]), (4, (.getfield 35), 3, [7, 3, 1, 230]), (7, (.iload_n 1), 1, []), (8, (.invokevirtual 216), 3, [3, 65, 2, 43, 1, 3, 2, 45, 2, 44]), (11, (.ifCond .ne 13), 3, [24]), (14, (.new 156), 3, [0, 3, 2]), (24, .return_, 1, [])]
def co_X9_clientOf : List Ent := [(0, (.iload_n 1), 1, []), (1, (.ifCond .lt 8), 3, [9]), (4, (.iload_n 1), 1, []), (5, (.iconst 3), 1, []), (6, (.if_icmp .lt 13), 3, [19]), (9, (.new 206), 3, [0, 1, 3]), (19, (.aload_n 0), 1, []), (20, (.getfield 10), 3, [8, 0, 2, 21]), (23, (.getfield 170), 3, [7, 4, 1, 232]), (26, (.iload_n 1), 1, []), (27, .aaload, 1, []), (28, .areturn, 1, [])]
def co_X9_checkConnected : List Ent := [(0, (.aload_n 0), 1, []), (1, (.getfield 73), 3, [1, 0, 1, 165]), (4, (.ifCond .ne 13), 3, [17]), (7, (.new 156), 3, [0, 3, 4]), (17, .return_, 1, [])]
def co_X9_packetOf : List Ent := [(0, (.iload_n 1), 1, []), (1, (.ifCond .lt 14), 3, [15]), (4, (.iload_n 1), 1, []), (5, (.aload_n 0), 1, []), (6, (.getfield 191), 3, [1, 12, 1, 186]), (9, (.getfield 195), 3, [4, 0, 1, 135]), (12, (.if_icmp .lt 13), 3, [25]), (15, (.new 211), 3, [0, 2, 5]), (25, (.aload_n 0), 1, []), (26, (.getfield 191), 3, [1, 12, 1, 186]), (29, (.getfield 198), 3, [4, 1, 1, 138]), (32, (.iload_n 1), 1, []), (33, .aaload, 1, []), (34, .areturn, 1, [])]
def co_X10_init : List Ent := [(0, (.aload_n 0), 1, []), (1, (.invokespecial 1), 3, [0, 4, 130, 1, 27, 1, 28]), (4, (.aload_n 0), 1, []), (5, (.sipush 7269), 3, []), (8, (.newarray .int), 2, [5, 7269, 1, 52]), (10, (.putfield 7), 3, [9, 0, 4, 141, 50, 49]), (13, (.aload_n 0), 1, []), (14, (.sipush 7269), 3, []), (17, (.newarray .int), 2, [5, 7269, 1, 52]), (19, (.putfield 13), 3, [9, 1, 4, 142, 51, 50]), (22, (.aload_n 0), 1, []), (23, (.sipush 7269), 3, []), (26, (.newarray .int), 2, [5, 7269, 1, 52]), (28, (.putfield 16), 3, [9, 2, 4, 143, 52, 51]), (31, (.aload_n 0), 1, []), (32, (.sipush 7269), 3, []), (35, (.newarray .int), 2, [5, 7269, 1, 52]), (37, (.putfield 19), 3, [9, 3, 4, 144, 53, 52]), (40, (.aload_n 0), 1, []), (41, (.bipush 16), 2, []), (43, (.newarray .boolean), 2, [6, 16, 4, 166]), (45, (.putfield 22), 3, [9, 6, 4, 147, 20, 53]), (48, (.aload_n 0), 1, []), (49, (.getfield 7), 3, [9, 0, 4, 141]), (52, (.iconst 1), 1, []), (53, (.iconst 2), 1, []), (54, .iastore, 1, []), (55, (.aload_n 0), 1, []), (56, (.getfield 7), 3, [9, 0, 4, 141]), (59, (.iconst 2), 1, []), (60, (.iconst 2), 1, []), (61, .iastore, 1, []), (62, (.iconst 0), 1, []), (63, (.istore_n 1), 1, []), (64, (.iload_n 1), 1, []), (65, (.bipush 16), 2, []), (67, (.if_icmp .ge 20), 3, [87]), (70, (.aload_n 0), 1, []), (71, (.getfield 7), 3, [9, 0, 4, 141]), (74, (.iconst 3), 1, []), (75, (.iconst 3), 1, []), (76, (.iload_n 1), 1, []), (77, .imul, 1, []), (78, .iadd, 1, []), (79, (.iconst (-1)), 1, []), (80, .iastore, 1, []), (81, (.iinc 1 1), 3, []), (84, (.goto (-20)), 3, [64]), (87, (.iconst 0), 1, []), (88, (.istore_n 1), 1, []), (89, (.iload_n 1), 1, []), (90, (.iconst 3), 1, []), (91, (.if_icmp .ge 14), 3, [105]), (94, (.aload_n 0), 1, []), (95, (.iload_n 1), 1, []), (96, (.invokevirtual 26), 3, [4, 131, 4, 133, 1, 10, 4, 134, 0, 15]), (99, (.iinc 1 1), 3, []), (102, (.goto (-13)), 3, [89]), (105, .return_, 1, [])]
def co_X10_thrown : List Ent := [(0, (.aload_n 0), 1, []), (1, (.getfield 30), 3, [9, 5, 4, 146]), (4, .ireturn, 1, [])]
def co_X10_fails : List Ent := [(0, (.aload_n 0), 1, []), (1, (.iload_n 1), 1, []), (2, (.putfield 30), 3, [9, 5, 4, 146]), (5, (.iconst 0), 1, []), (6, .ireturn, 1, [])]
def co_X10_in : List Ent := [(0, (.iload_n 0), 1, []), (1, (.iload_n 1), 1, []), (2, (.if_icmp .lt 12), 3, [14]), (5, (.iload_n 0), 1, []), (6, (.iload_n 2), 1, []), (7, (.if_icmp .gt 7), 3, [14]), (10, (.iconst 1), 1, []), (11, (.goto 4), 3, [15]), (14, (.iconst 0), 1, []), (15, .ireturn, 1, [])]
def co_X10_size : List Ent := [(0, (.iload_n 0), 1, []), (1, (.ifCond .ge 8), 3, [9]), (4, (.iload_n 0), 1, []), (5, .ineg, 1, []), (6, (.goto 4), 3, [10]), (9, (.iload_n 0), 1, []), (10, .ireturn, 1, [])]
def co_X10_copyAll : List Ent := [(0, (.iconst 0), 1, []), (1, (.istore_n 2), 1, []), (2, (.iload_n 2), 1, []), (3, (.sipush 7269), 3, []), (6, (.if_icmp .ge 15), 3, [21]), (9, (.aload_n 1), 1, []), (10, (.iload_n 2), 1, []), (11, (.aload_n 0), 1, []), (12, (.iload_n 2), 1, []), (13, .iaload, 1, []), (14, .iastore, 1, []), (15, (.iinc 2 1), 3, []), (18, (.goto (-16)), 3, [2]), (21, .return_, 1, [])]
def co_X10_keep : List Ent := [(0, (.aload_n 0), 1, []), (1, (.getfield 16), 3, [9, 2, 4, 143]), (4, (.aload_n 0), 1, []), (5, (.getfield 19), 3, [9, 3, 4, 144]), (8, (.invokestatic 34), 3, [1, 4, 188, 4, 189, 1, 10, 4, 190]), (11, (.aload_n 0), 1, []), (12, (.getfield 13), 3, [9, 1, 4, 142]), (15, (.aload_n 0), 1, []), (16, (.getfield 16), 3, [9, 2, 4, 143]), (19, (.invokestatic 34), 3, [1, 4, 188, 4, 189, 1, 10, 4, 190]), (22, (.aload_n 0), 1, []), (23, (.getfield 7), 3, [9, 0, 4, 141]), (26, (.aload_n 0), 1, []), (27, (.getfield 13), 3, [9, 1, 4, 142]), (30, (.invokestatic 34), 3, [1, 4, 188, 4, 189, 1, 10, 4, 190]), (33, (.aload_n 0), 1, []), (34, .dup, 1, []), (35, (.getfield 38), 3, [9, 4, 4, 145]), (38, (.aload_n 0), 1, []), (39, (.getfield 38), 3, [9, 4, 4, 145]), (42, (.iconst 3), 1, []), (43, (.if_icmp .ge 7), 3, [50]), (46, (.iconst 1), 1, []), (47, (.goto 4), 3, [51]), (50, (.iconst 0), 1, []), (51, .iadd, 1, []), (52, (.putfield 38), 3, [9, 4, 4, 145]), (55, .return_, 1, [])]
def co_X10_packed : List Ent := [(0, (.iload_n 0), 1, []), (1, (.bipush 32), 2, []), (3, (.iload_n 1), 1, []), (4, (.bipush 32), 2, []), (6, (.iload_n 2), 1, []), (7, (.iconst 4), 1, []), (8, (.iload_n 3), 1, []), (9, .imul, 1, []), (10, .iadd, 1, []), (11, .imul, 1, []), (12, .iadd, 1, []), (13, .imul, 1, []), (14, .iadd, 1, []), (15, .ireturn, 1, [])]
def co_X10_part : List Ent := [(0, (.iload_n 1), 1, []), (1, (.ifCond .ne 10), 3, [11]), (4, (.iload_n 0), 1, []), (5, (.bipush 32), 2, []), (7, .irem, 1, []), (8, (.goto 38), 3, [46]), (11, (.iload_n 1), 1, []), (12, (.iconst 1), 1, []), (13, (.if_icmp .ne 13), 3, [26]), (16, (.iload_n 0), 1, []), (17, (.bipush 32), 2, []), (19, .idiv, 1, []), (20, (.bipush 32), 2, []), (22, .irem, 1, []), (23, (.goto 23), 3, [46]), (26, (.iload_n 1), 1, []), (27, (.iconst 2), 1, []), (28, (.if_icmp .ne 13), 3, [41]), (31, (.iload_n 0), 1, []), (32, (.sipush 1024), 3, []), (35, .idiv, 1, []), (36, (.iconst 4), 1, []), (37, .irem, 1, []), (38, (.goto 8), 3, [46]), (41, (.iload_n 0), 1, []), (42, (.sipush 4096), 3, []), (45, .idiv, 1, []), (46, .ireturn, 1, [])]
def co_X10_partOrZero : List Ent := [(0, (.iload_n 0), 1, []), (1, (.iconst (-1)), 1, []), (2, (.if_icmp .ne 7), 3, [9]), (5, (.iconst 0), 1, []), (6, (.goto 8), 3, [14]), (9, (.iload_n 0), 1, []), (10, (.iload_n 1), 1, []), (11, (.invokestatic 41), 3, [1, 4, 210, 4, 211, 1, 10, 4, 212]), (14, .ireturn, 1, [])]
def co_X10_mask : List Ent := [(0, (.iconst 0), 1, []), (1, (.istore_n 2), 1, []), (2, (.iconst 0), 1, []), (3, (.istore_n 3), 1, []), (4, (.iload_n 3), 1, []), (5, (.iconst 4), 1, []), (6, (.if_icmp .ge 32), 3, [38]), (9, (.iload_n 2), 1, []), (10, (.iload_n 0), 1, []), (11, (.iload_n 3), 1, []), (12, (.invokestatic 41), 3, [1, 4, 210, 4, 211, 1, 10, 4, 212]), (15, (.iload_n 1), 1, []), (16, (.iload_n 3), 1, []), (17, (.invokestatic 41), 3, [1, 4, 210, 4, 211, 1, 10, 4, 212]), (20, (.if_icmp .ne 7), 3, [27]), (23, (.iconst 0), 1, []), (24, (.goto 6), 3, [30]), (27, (.iconst 1), 1, []), (28, (.iload_n 3), 1, []), (29, .ishl, 1, []), (30, .ior, 1, []), (31, (.istore_n 2), 1, []), (32, (.iinc 3 1), 3, []), (35, (.goto (-31)), 3, [4]), (38, (.iload_n 2), 1, []), (39, .ireturn, 1, [])]
def co_X10_mixed : List Ent := [(0, (.iload_n 2), 1, []), (1, (.iconst 1), 1, []), (2, .iand, 1, []), (3, (.ifCond .ne 7), 3, [10]), (6, (.iload_n 0), 1, []), (7, (.goto 4), 3, [11]), (10, (.iload_n 1), 1, []), (11, (.iconst 0), 1, []), (12, (.invokestatic 41), 3, [1, 4, 210, 4, 211, 1, 10, 4, 212]), (15, (.istore_n 3), 1, []), (16, (.iload_n 2), 1, []), (17, (.iconst 2), 1, []), (18, .iand, 1, []), (19, (.ifCond .ne 7), 3, [26]), (22, (.iload_n 0), 1, []), (23, (.goto 4), 3, [27]), (26, (.iload_n 1), 1, []), (27, (.iconst 1), 1, []), (28, (.invokestatic 41), 3, [1, 4, 210, 4, 211, 1, 10, 4, 212]), (31, (.istore 4), 2, []), (33, (.iload_n 2), 1, []), (34, (.iconst 4), 1, []), (35, .iand, 1, []), (36, (.ifCond .ne 7), 3, [43]), (39, (.iload_n 0), 1, []), (40, (.goto 4), 3, [44]), (43, (.iload_n 1), 1, []), (44, (.iconst 2), 1, []), (45, (.invokestatic 41), 3, [1, 4, 210, 4, 211, 1, 10, 4, 212]), (48, (.istore 5), 2, []), (50, (.iload_n 2), 1, []), (51, (.bipush 8), 2, []), (53, .iand, 1, []), (54, (.ifCond .ne 7), 3, [61]), (57, (.iload_n 0), 1, []), (58, (.goto 4), 3, [62]), (61, (.iload_n 1), 1, []), (62, (.iconst 3), 1, []), (63, (.invokestatic 41), 3, [1, 4, 210, 4, 211, 1, 10, 4, 212]), (66, (.istore 6), 2, []), (68, (.iload_n 3), 1, []), (69, (.iload 4), 2, []), (71, (.iload 5), 2, []), (73, (.iload 6), 2, []), (75, (.invokestatic 45), 3, [1, 4, 199, 4, 200, 1, 10, 4, 201]), (78, .ireturn, 1, [])]
def co_X10_bits : List Ent := [(0, (.iload_n 0), 1, []), (1, (.iconst 1), 1, []), (2, .iand, 1, []), (3, (.iload_n 0), 1, []), (4, (.iconst 1), 1, []), (5, .ishr, 1, []), (6, (.iconst 1), 1, []), (7, .iand, 1, []), (8, .iadd, 1, []), (9, (.iload_n 0), 1, []), (10, (.iconst 2), 1, []), (11, .ishr, 1, []), (12, (.iconst 1), 1, []), (13, .iand, 1, []), (14, .iadd, 1, []), (15, (.iload_n 0), 1, []), (16, (.iconst 3), 1, []), (17, .ishr, 1, []), (18, (.iconst 1), 1, []), (19, .iand, 1, []), (20, .iadd, 1, []), (21, .ireturn, 1, [])]
def co_X10_isEntity : List Ent := [(0, (.iload_n 0), 1, []), (1, (.iconst 0), 1, []), (2, (.bipush 15), 2, []), (4, (.invokestatic 49), 3, [1, 4, 178, 4, 179, 1, 10, 4, 180]), (7, .ireturn, 1, [])]
def co_X10_stateOf : List Ent := [(0, (.aload_n 0), 1, []), (1, (.getfield 7), 3, [9, 0, 4, 141]), (4, (.iconst 3), 1, []), (5, (.iconst 3), 1, []), (6, (.iload_n 1), 1, []), (7, .imul, 1, []), (8, .iadd, 1, []), (9, .iaload, 1, []), (10, .ireturn, 1, [])]
def co_X10_exists : List Ent := [(0, (.aload_n 0), 1, []), (1, (.iload_n 1), 1, []), (2, (.invokevirtual 53), 3, [4, 195, 4, 197, 1, 10, 4, 198, 0, 18]), (5, (.iconst (-1)), 1, []), (6, (.if_icmp .eq 7), 3, [13]), (9, (.iconst 1), 1, []), (10, (.goto 4), 3, [14]), (13, (.iconst 0), 1, []), (14, .ireturn, 1, [])]
def co_X10_isPosition : List Ent := [(0, (.iload_n 0), 1, []), (1, (.iconst 0), 1, []), (2, (.bipush 31), 2, []), (4, (.invokestatic 49), 3, [1, 4, 178, 4, 179, 1, 10, 4, 180]), (7, (.ifCond .eq 17), 3, [24]), (10, (.iload_n 1), 1, []), (11, (.iconst 0), 1, []), (12, (.bipush 31), 2, []), (14, (.invokestatic 49), 3, [1, 4, 178, 4, 179, 1, 10, 4, 180]), (17, (.ifCond .eq 7), 3, [24]), (20, (.iconst 1), 1, []), (21, (.goto 4), 3, [25]), (24, (.iconst 0), 1, []), (25, .ireturn, 1, [])]
def co_X10_place : List Ent := [(0, (.aload_n 0), 1, []), (1, (.iload_n 1), 1, []), (2, (.invokestatic 57), 3, [1, 4, 175, 4, 176, 1, 10, 4, 177]), (5, (.ifCond .ne 7), 3, [12]), (8, (.iconst 1), 1, []), (9, (.goto 37), 3, [46]), (12, (.iload_n 2), 1, []), (13, (.iload_n 3), 1, []), (14, (.invokestatic 61), 3, [1, 4, 181, 4, 182, 1, 10, 4, 183]), (17, (.ifCond .eq 28), 3, [45]), (20, (.iload 4), 2, []), (22, (.iconst 0), 1, []), (23, (.iconst 3), 1, []), (24, (.invokestatic 49), 3, [1, 4, 178, 4, 179, 1, 10, 4, 180]), (27, (.ifCond .eq 18), 3, [45]), (30, (.iload 5), 2, []), (32, (.iconst 0), 1, []), (33, (.bipush 100), 2, []), (35, (.invokestatic 49), 3, [1, 4, 178, 4, 179, 1, 10, 4, 180]), (38, (.ifCond .eq 7), 3, [45]), (41, (.iconst 0), 1, []), (42, (.goto 4), 3, [46]), (45, (.iconst 2), 1, []), (46, (.putfield 30), 3, [9, 5, 4, 146]), (49, (.aload_n 0), 1, []), (50, (.getfield 30), 3, [9, 5, 4, 146]), (53, (.ifCond .eq 5), 3, [58]), (56, (.iconst 0), 1, []), (57, .ireturn, 1, []), (58, (.aload_n 0), 1, []), (59, (.invokevirtual 65), 3, [4, 184, 4, 186, 1, 10, 4, 187, 0, 16]), (62, (.aload_n 0), 1, []), (63, (.iload_n 1), 1, []), (64, (.invokevirtual 68), 3, [4, 191, 4, 193, 1, 10, 4, 194, 0, 17]), (67, (.istore 6), 2, []), (69, (.aload_n 0), 1, []), (70, (.getfield 7), 3, [9, 0, 4, 141]), (73, (.iconst 3), 1, []), (74, (.iconst 3), 1, []), (75, (.iload_n 1), 1, []), (76, .imul, 1, []), (77, .iadd, 1, []), (78, (.iload_n 2), 1, []), (79, (.iload_n 3), 1, []), (80, (.iload 4), 2, []), (82, (.iload 5), 2, []), (84, (.invokestatic 45), 3, [1, 4, 199, 4, 200, 1, 10, 4, 201]), (87, .iastore, 1, []), (88, (.iload 6), 2, []), (90, .ireturn, 1, [])]
def co_X10_setVelocity : List Ent := [(0, (.aload_n 0), 1, []), (1, (.iload_n 1), 1, []), (2, (.invokestatic 57), 3, [1, 4, 175, 4, 176, 1, 10, 4, 177]), (5, (.ifCond .ne 7), 3, [12]), (8, (.iconst 1), 1, []), (9, (.goto 40), 3, [49]), (12, (.iload_n 2), 1, []), (13, (.bipush (-3)), 2, []), (15, (.iconst 3), 1, []), (16, (.invokestatic 49), 3, [1, 4, 178, 4, 179, 1, 10, 4, 180]), (19, (.ifCond .eq 13), 3, [32]), (22, (.iload_n 3), 1, []), (23, (.bipush (-3)), 2, []), (25, (.iconst 3), 1, []), (26, (.invokestatic 49), 3, [1, 4, 178, 4, 179, 1, 10, 4, 180]), (29, (.ifCond .ne 7), 3, [36]), (32, (.iconst 2), 1, []), (33, (.goto 16), 3, [49]), (36, (.aload_n 0), 1, []), (37, (.iload_n 1), 1, []), (38, (.invokevirtual 68), 3, [4, 191, 4, 193, 1, 10, 4, 194, 0, 17]), (41, (.ifCond .eq 7), 3, [48]), (44, (.iconst 0), 1, []), (45, (.goto 4), 3, [49]), (48, (.iconst 3), 1, []), (49, (.putfield 30), 3, [9, 5, 4, 146]), (52, (.aload_n 0), 1, []), (53, (.getfield 30), 3, [9, 5, 4, 146]), (56, (.ifCond .eq 5), 3, [61]), (59, (.iconst 0), 1, []), (60, .ireturn, 1, []), (61, (.aload_n 0), 1, []), (62, (.invokevirtual 65), 3, [4, 184, 4, 186, 1, 10, 4, 187, 0, 16]), (65, (.iconst 3), 1, []), (66, (.iconst 3), 1, []), (67, (.iload_n 1), 1, []), (68, .imul, 1, []), (69, .iadd, 1, []), (70, (.istore 4), 2, []), (72, (.bipush 10), 2, []), (74, (.aload_n 0), 1, []), (75, (.getfield 7), 3, [9, 0, 4, 141]), (78, (.iload 4), 2, []), (80, (.iconst 1), 1, []), (81, .iadd, 1, []), (82, .iaload, 1, []), (83, (.iconst 3), 1, []), (84, .iadd, 1, []), (85, .imul, 1, []), (86, (.aload_n 0), 1, []), (87, (.getfield 7), 3, [9, 0, 4, 141]), (90, (.iload 4), 2, []), (92, (.iconst 2), 1, []), (93, .iadd, 1, []), (94, .iaload, 1, []), (95, .iadd, 1, []), (96, (.iconst 3), 1, []), (97, .iadd, 1, []), (98, (.istore 5), 2, []), (100, (.aload_n 0), 1, []), (101, (.getfield 7), 3, [9, 0, 4, 141]), (104, (.iload 4), 2, []), (106, (.iconst 1), 1, []), (107, .iadd, 1, []), (108, (.iload_n 2), 1, []), (109, .iastore, 1, []), (110, (.aload_n 0), 1, []), (111, (.getfield 7), 3, [9, 0, 4, 141]), (114, (.iload 4), 2, []), (116, (.iconst 2), 1, []), (117, .iadd, 1, []), (118, (.iload_n 3), 1, []), (119, .iastore, 1, []), (120, (.iload 5), 2, []), (122, .ireturn, 1, [])]
def co_X10_setHealth : List Ent := [(0, (.aload_n 0), 1, []), (1, (.iload_n 1), 1, []), (2, (.invokestatic 57), 3, [1, 4, 175, 4, 176, 1, 10, 4, 177]), (5, (.ifCond .ne 7), 3, [12]), (8, (.iconst 1), 1, []), (9, (.goto 30), 3, [39]), (12, (.iload_n 2), 1, []), (13, (.iconst 0), 1, []), (14, (.bipush 100), 2, []), (16, (.invokestatic 49), 3, [1, 4, 178, 4, 179, 1, 10, 4, 180]), (19, (.ifCond .ne 7), 3, [26]), (22, (.iconst 2), 1, []), (23, (.goto 16), 3, [39]), (26, (.aload_n 0), 1, []), (27, (.iload_n 1), 1, []), (28, (.invokevirtual 68), 3, [4, 191, 4, 193, 1, 10, 4, 194, 0, 17]), (31, (.ifCond .eq 7), 3, [38]), (34, (.iconst 0), 1, []), (35, (.goto 4), 3, [39]), (38, (.iconst 3), 1, []), (39, (.putfield 30), 3, [9, 5, 4, 146]), (42, (.aload_n 0), 1, []), (43, (.getfield 30), 3, [9, 5, 4, 146]), (46, (.ifCond .eq 5), 3, [51]), (49, (.iconst 0), 1, []), (50, .ireturn, 1, []), (51, (.aload_n 0), 1, []), (52, (.invokevirtual 65), 3, [4, 184, 4, 186, 1, 10, 4, 187, 0, 16]), (55, (.aload_n 0), 1, []), (56, (.iload_n 1), 1, []), (57, (.invokevirtual 53), 3, [4, 195, 4, 197, 1, 10, 4, 198, 0, 18]), (60, (.istore_n 3), 1, []), (61, (.aload_n 0), 1, []), (62, (.getfield 7), 3, [9, 0, 4, 141]), (65, (.iconst 3), 1, []), (66, (.iconst 3), 1, []), (67, (.iload_n 1), 1, []), (68, .imul, 1, []), (69, .iadd, 1, []), (70, (.iload_n 3), 1, []), (71, (.iconst 0), 1, []), (72, (.invokestatic 41), 3, [1, 4, 210, 4, 211, 1, 10, 4, 212]), (75, (.iload_n 3), 1, []), (76, (.iconst 1), 1, []), (77, (.invokestatic 41), 3, [1, 4, 210, 4, 211, 1, 10, 4, 212]), (80, (.iload_n 3), 1, []), (81, (.iconst 2), 1, []), (82, (.invokestatic 41), 3, [1, 4, 210, 4, 211, 1, 10, 4, 212]), (85, (.iload_n 2), 1, []), (86, (.invokestatic 45), 3, [1, 4, 199, 4, 200, 1, 10, 4, 201]), (89, .iastore, 1, []), (90, (.iload_n 3), 1, []), (91, (.iconst 3), 1, []), (92, (.invokestatic 41), 3, [1, 4, 210, 4, 211, 1, 10, 4, 212]), (95, .ireturn, 1, [])]
def co_X10_destroy : List Ent := [(0, (.aload_n 0), 1, []), (1, (.iload_n 1), 1, []), (2, (.invokestatic 57), 3, [1, 4, 175, 4, 176, 1, 10, 4, 177]), (5, (.ifCond .ne 7), 3, [12]), (8, (.iconst 1), 1, []), (9, (.goto 16), 3, [25]), (12, (.aload_n 0), 1, []), (13, (.iload_n 1), 1, []), (14, (.invokevirtual 68), 3, [4, 191, 4, 193, 1, 10, 4, 194, 0, 17]), (17, (.ifCond .eq 7), 3, [24]), (20, (.iconst 0), 1, []), (21, (.goto 4), 3, [25]), (24, (.iconst 2), 1, []), (25, (.putfield 30), 3, [9, 5, 4, 146]), (28, (.aload_n 0), 1, []), (29, (.getfield 30), 3, [9, 5, 4, 146]), (32, (.ifCond .eq 5), 3, [37]), (35, (.iconst 0), 1, []), (36, .ireturn, 1, []), (37, (.aload_n 0), 1, []), (38, (.invokevirtual 65), 3, [4, 184, 4, 186, 1, 10, 4, 187, 0, 16]), (41, (.aload_n 0), 1, []), (42, (.getfield 7), 3, [9, 0, 4, 141]), (45, (.iconst 3), 1, []), (46, (.iconst 3), 1, []), (47, (.iload_n 1), 1, []), (48, .imul, 1, []), (49, .iadd, 1, []), (50, (.iconst (-1)), 1, []), (51, .iastore, 1, []), (52, (.aload_n 0), 1, []), (53, (.getfield 7), 3, [9, 0, 4, 141]), (56, (.iconst 3), 1, []), (57, (.iconst 3), 1, []), (58, (.iload_n 1), 1, []), (59, .imul, 1, []), (60, .iadd, 1, []), (61, (.iconst 1), 1, []), (62, .iadd, 1, []), (63, (.iconst 0), 1, []), (64, .iastore, 1, []), (65, (.aload_n 0), 1, []), (66, (.getfield 7), 3, [9, 0, 4, 141]), (69, (.iconst 3), 1, []), (70, (.iconst 3), 1, []), (71, (.iload_n 1), 1, []), (72, .imul, 1, []), (73, .iadd, 1, []), (74, (.iconst 2), 1, []), (75, .iadd, 1, []), (76, (.iconst 0), 1, []), (77, .iastore, 1, []), (78, (.iconst 0), 1, []), (79, (.istore_n 2), 1, []), (80, (.iconst 0), 1, []), (81, (.istore_n 3), 1, []), (82, (.iload_n 3), 1, []), (83, (.bipush 16), 2, []), (85, (.if_icmp .ge 25), 3, [110]), (88, (.iload_n 2), 1, []), (89, (.aload_n 0), 1, []), (90, (.iload_n 3), 1, []), (91, (.invokevirtual 68), 3, [4, 191, 4, 193, 1, 10, 4, 194, 0, 17]), (94, (.ifCond .eq 7), 3, [101]), (97, (.iconst 1), 1, []), (98, (.goto 4), 3, [102]), (101, (.iconst 0), 1, []), (102, .iadd, 1, []), (103, (.istore_n 2), 1, []), (104, (.iinc 3 1), 3, []), (107, (.goto (-25)), 3, [82]), (110, (.iload_n 2), 1, []), (111, .ireturn, 1, [])]
def co_X10_entityValue : List Ent := [(0, (.iload_n 2), 1, []), (1, (.ifCond .ne 17), 3, [18]), (4, (.aload_n 0), 1, []), (5, (.iload_n 1), 1, []), (6, (.invokevirtual 68), 3, [4, 191, 4, 193, 1, 10, 4, 194, 0, 17]), (9, (.ifCond .eq 7), 3, [16]), (12, (.iconst 1), 1, []), (13, (.goto 4), 3, [17]), (16, (.iconst 0), 1, []), (17, .ireturn, 1, []), (18, (.iload_n 2), 1, []), (19, (.iconst 5), 1, []), (20, (.if_icmp .ge 17), 3, [37]), (23, (.aload_n 0), 1, []), (24, (.iload_n 1), 1, []), (25, (.invokevirtual 53), 3, [4, 195, 4, 197, 1, 10, 4, 198, 0, 18]), (28, (.iload_n 2), 1, []), (29, (.iconst 1), 1, []), (30, .isub, 1, []), (31, (.invokestatic 71), 3, [1, 4, 225, 4, 226, 1, 10, 4, 227]), (34, (.goto 17), 3, [51]), (37, (.aload_n 0), 1, []), (38, (.getfield 7), 3, [9, 0, 4, 141]), (41, (.iconst 3), 1, []), (42, (.iconst 3), 1, []), (43, (.iload_n 1), 1, []), (44, .imul, 1, []), (45, .iadd, 1, []), (46, (.iload_n 2), 1, []), (47, .iadd, 1, []), (48, (.iconst 4), 1, []), (49, .isub, 1, []), (50, .iaload, 1, []), (51, .ireturn, 1, [])]
def co_X10_entity : List Ent := [(0, (.aload_n 0), 1, []), (1, (.iload_n 1), 1, []), (2, (.invokestatic 57), 3, [1, 4, 175, 4, 176, 1, 10, 4, 177]), (5, (.ifCond .ne 7), 3, [12]), (8, (.iconst 1), 1, []), (9, (.goto 18), 3, [27]), (12, (.iload_n 2), 1, []), (13, (.iconst 0), 1, []), (14, (.bipush 6), 2, []), (16, (.invokestatic 49), 3, [1, 4, 178, 4, 179, 1, 10, 4, 180]), (19, (.ifCond .ne 7), 3, [26]), (22, (.iconst 2), 1, []), (23, (.goto 4), 3, [27]), (26, (.iconst 0), 1, []), (27, (.putfield 30), 3, [9, 5, 4, 146]), (30, (.aload_n 0), 1, []), (31, (.getfield 30), 3, [9, 5, 4, 146]), (34, (.ifCond .eq 7), 3, [41]), (37, (.iconst 0), 1, []), (38, (.goto 9), 3, [47]), (41, (.aload_n 0), 1, []), (42, (.iload_n 1), 1, []), (43, (.iload_n 2), 1, []), (44, (.invokevirtual 74), 3, [4, 221, 4, 223, 1, 10, 4, 224, 0, 19]), (47, .ireturn, 1, [])]
def co_X10_isClient : List Ent := [(0, (.iload_n 0), 1, []), (1, (.iconst 0), 1, []), (2, (.iconst 2), 1, []), (3, (.invokestatic 49), 3, [1, 4, 178, 4, 179, 1, 10, 4, 180]), (6, .ireturn, 1, [])]
def co_X10_cell : List Ent := [(0, (.bipush 51), 2, []), (2, (.sipush 2406), 3, []), (5, (.iload_n 0), 1, []), (6, .imul, 1, []), (7, .iadd, 1, []), (8, (.iload_n 1), 1, []), (9, .iadd, 1, []), (10, .ireturn, 1, [])]
def co_X10_of : List Ent := [(0, (.aload_n 0), 1, []), (1, (.getfield 7), 3, [9, 0, 4, 141]), (4, (.iload_n 1), 1, []), (5, (.iload_n 2), 1, []), (6, (.invokestatic 77), 3, [1, 4, 135, 4, 136, 1, 10, 4, 137]), (9, .iaload, 1, []), (10, .ireturn, 1, [])]
def co_X10_add : List Ent := [(0, (.aload_n 0), 1, []), (1, (.getfield 7), 3, [9, 0, 4, 141]), (4, (.iload_n 1), 1, []), (5, (.iload_n 2), 1, []), (6, (.invokestatic 77), 3, [1, 4, 135, 4, 136, 1, 10, 4, 137]), (9, .dup2, 1, []), (10, .iaload, 1, []), (11, (.iload_n 3), 1, []), (12, .iadd, 1, []), (13, .iastore, 1, []), (14, .return_, 1, [])]
def co_X10_isConnected : List Ent := [(0, (.aload_n 0), 1, []), (1, (.iload_n 1), 1, []), (2, (.iconst 0), 1, []), (3, (.invokevirtual 80), 3, [4, 239, 5, 1, 1, 10, 5, 2, 0, 21]), (6, (.iconst 1), 1, []), (7, (.if_icmp .ne 7), 3, [14]), (10, (.iconst 1), 1, []), (11, (.goto 4), 3, [15]), (14, (.iconst 0), 1, []), (15, .ireturn, 1, [])]
def co_X10_base : List Ent := [(0, (.iload_n 0), 1, []), (1, (.sipush 1958), 3, []), (4, (.iconst 3), 1, []), (5, (.iload_n 1), 1, []), (6, .imul, 1, []), (7, .iadd, 1, []), (8, (.invokestatic 77), 3, [1, 4, 135, 4, 136, 1, 10, 4, 137]), (11, .ireturn, 1, [])]
def co_X10_records : List Ent := [(0, (.iload_n 0), 1, []), (1, (.sipush 2006), 3, []), (4, (.bipush 25), 2, []), (6, (.iload_n 1), 1, []), (7, .imul, 1, []), (8, .iadd, 1, []), (9, (.invokestatic 77), 3, [1, 4, 135, 4, 136, 1, 10, 4, 137]), (12, .ireturn, 1, [])]
def co_X10_clear : List Ent := [(0, (.iconst 0), 1, []), (1, (.istore_n 2), 1, []), (2, (.iload_n 2), 1, []), (3, (.sipush 2406), 3, []), (6, (.if_icmp .ge 20), 3, [26]), (9, (.aload_n 0), 1, []), (10, (.getfield 7), 3, [9, 0, 4, 141]), (13, (.iload_n 1), 1, []), (14, (.iload_n 2), 1, []), (15, (.invokestatic 77), 3, [1, 4, 135, 4, 136, 1, 10, 4, 137]), (18, (.iconst 0), 1, []), (19, .iastore, 1, []), (20, (.iinc 2 1), 3, []), (23, (.goto (-21)), 3, [2]), (26, (.iconst 0), 1, []), (27, (.istore_n 2), 1, []), (28, (.iload_n 2), 1, []), (29, (.bipush 16), 2, []), (31, (.if_icmp .ge 22), 3, [53]), (34, (.aload_n 0), 1, []), (35, (.getfield 7), 3, [9, 0, 4, 141]), (38, (.iload_n 1), 1, []), (39, (.iload_n 2), 1, []), (40, (.invokestatic 83), 3, [1, 4, 138, 4, 139, 1, 10, 4, 140]), (43, (.iconst 2), 1, []), (44, .iadd, 1, []), (45, (.iconst (-1)), 1, []), (46, .iastore, 1, []), (47, (.iinc 2 1), 3, []), (50, (.goto (-22)), 3, [28]), (53, .return_, 1, [])]
def co_X10_aim : List Ent := [(0, (.aload_n 0), 1, []), (1, (.getfield 7), 3, [9, 0, 4, 141]), (4, (.iload_n 1), 1, []), (5, (.iconst 1), 1, []), (6, (.invokestatic 77), 3, [1, 4, 135, 4, 136, 1, 10, 4, 137]), (9, (.iload_n 2), 1, []), (10, .iastore, 1, []), (11, (.aload_n 0), 1, []), (12, (.getfield 7), 3, [9, 0, 4, 141]), (15, (.iload_n 1), 1, []), (16, (.iconst 2), 1, []), (17, (.invokestatic 77), 3, [1, 4, 135, 4, 136, 1, 10, 4, 137]), (20, (.iload_n 3), 1, []), (21, .iastore, 1, []), (22, (.aload_n 0), 1, []), (23, (.getfield 7), 3, [9, 0, 4, 141]), (26, (.iload_n 1), 1, []), (27, (.iconst 3), 1, []), (28, (.invokestatic 77), 3, [1, 4, 135, 4, 136, 1, 10, 4, 137]), (31, (.iload 4), 2, []), (33, .iastore, 1, []), (34, .return_, 1, [])]
def co_X10_connect : List Ent := [(0, (.aload_n 0), 1, []), (1, (.iload_n 1), 1, []), (2, (.invokestatic 86), 3, [1, 4, 232, 4, 233, 1, 10, 4, 234]), (5, (.ifCond .ne 7), 3, [12]), (8, (.iconst 1), 1, []), (9, (.goto 39), 3, [48]), (12, (.iload_n 2), 1, []), (13, (.iload_n 3), 1, []), (14, (.invokestatic 61), 3, [1, 4, 181, 4, 182, 1, 10, 4, 183]), (17, (.ifCond .eq 30), 3, [47]), (20, (.iload 4), 2, []), (22, (.iconst 1), 1, []), (23, (.bipush 31), 2, []), (25, (.invokestatic 49), 3, [1, 4, 178, 4, 179, 1, 10, 4, 180]), (28, (.ifCond .eq 19), 3, [47]), (31, (.iload 5), 2, []), (33, (.bipush 12), 2, []), (35, (.bipush 64), 2, []), (37, (.invokestatic 49), 3, [1, 4, 178, 4, 179, 1, 10, 4, 180]), (40, (.ifCond .eq 7), 3, [47]), (43, (.iconst 0), 1, []), (44, (.goto 4), 3, [48]), (47, (.iconst 2), 1, []), (48, (.putfield 30), 3, [9, 5, 4, 146]), (51, (.aload_n 0), 1, []), (52, (.getfield 30), 3, [9, 5, 4, 146]), (55, (.ifCond .eq 5), 3, [60]), (58, (.iconst 0), 1, []), (59, .ireturn, 1, []), (60, (.aload_n 0), 1, []), (61, (.invokevirtual 65), 3, [4, 184, 4, 186, 1, 10, 4, 187, 0, 16]), (64, (.aload_n 0), 1, []), (65, (.iload_n 1), 1, []), (66, (.invokevirtual 89), 3, [4, 235, 4, 237, 1, 10, 4, 238, 0, 20]), (69, (.istore 6), 2, []), (71, (.aload_n 0), 1, []), (72, (.iload_n 1), 1, []), (73, (.invokevirtual 26), 3, [4, 131, 4, 133, 1, 10, 4, 134, 0, 15]), (76, (.aload_n 0), 1, []), (77, (.getfield 7), 3, [9, 0, 4, 141]), (80, (.iload_n 1), 1, []), (81, (.iconst 0), 1, []), (82, (.invokestatic 77), 3, [1, 4, 135, 4, 136, 1, 10, 4, 137]), (85, (.iconst 1), 1, []), (86, .iastore, 1, []), (87, (.aload_n 0), 1, []), (88, (.iload_n 1), 1, []), (89, (.iload_n 2), 1, []), (90, (.iload_n 3), 1, []), (91, (.iload 4), 2, []), (93, (.invokevirtual 92), 3, [5, 3, 5, 5, 1, 10, 5, 6, 0, 22]), (96, (.aload_n 0), 1, []), (97, (.getfield 7), 3, [9, 0, 4, 141]), (100, (.iload_n 1), 1, []), (101, (.iconst 4), 1, []), (102, (.invokestatic 77), 3, [1, 4, 135, 4, 136, 1, 10, 4, 137]), (105, (.iload 5), 2, []), (107, .iastore, 1, []), (108, (.iload 6), 2, []), (110, .ireturn, 1, [])]
def co_X10_distance : List Ent := [(0, (.aload_n 0), 1, []), (1, (.iload_n 2), 1, []), (2, (.invokevirtual 53), 3, [4, 195, 4, 197, 1, 10, 4, 198, 0, 18]), (5, (.iconst 0), 1, []), (6, (.invokestatic 41), 3, [1, 4, 210, 4, 211, 1, 10, 4, 212]), (9, (.aload_n 0), 1, []), (10, (.iload_n 1), 1, []), (11, (.iconst 1), 1, []), (12, (.invokevirtual 80), 3, [4, 239, 5, 1, 1, 10, 5, 2, 0, 21]), (15, .isub, 1, []), (16, (.invokestatic 96), 3, [1, 5, 19, 5, 20, 1, 10, 5, 21]), (19, (.istore_n 3), 1, []), (20, (.aload_n 0), 1, []), (21, (.iload_n 2), 1, []), (22, (.invokevirtual 53), 3, [4, 195, 4, 197, 1, 10, 4, 198, 0, 18]), (25, (.iconst 1), 1, []), (26, (.invokestatic 41), 3, [1, 4, 210, 4, 211, 1, 10, 4, 212]), (29, (.aload_n 0), 1, []), (30, (.iload_n 1), 1, []), (31, (.iconst 2), 1, []), (32, (.invokevirtual 80), 3, [4, 239, 5, 1, 1, 10, 5, 2, 0, 21]), (35, .isub, 1, []), (36, (.invokestatic 96), 3, [1, 5, 19, 5, 20, 1, 10, 5, 21]), (39, (.istore 4), 2, []), (41, (.iload_n 3), 1, []), (42, (.iload 4), 2, []), (44, (.if_icmp .le 7), 3, [51]), (47, (.iload_n 3), 1, []), (48, (.goto 5), 3, [53]), (51, (.iload 4), 2, []), (53, .ireturn, 1, [])]
def co_X10_isInArea : List Ent := [(0, (.aload_n 0), 1, []), (1, (.iload_n 2), 1, []), (2, (.invokevirtual 68), 3, [4, 191, 4, 193, 1, 10, 4, 194, 0, 17]), (5, (.ifCond .eq 22), 3, [27]), (8, (.aload_n 0), 1, []), (9, (.iload_n 1), 1, []), (10, (.iload_n 2), 1, []), (11, (.invokevirtual 99), 3, [5, 15, 5, 17, 1, 10, 5, 18, 0, 24]), (14, (.aload_n 0), 1, []), (15, (.iload_n 1), 1, []), (16, (.iconst 3), 1, []), (17, (.invokevirtual 80), 3, [4, 239, 5, 1, 1, 10, 5, 2, 0, 21]), (20, (.if_icmp .gt 7), 3, [27]), (23, (.iconst 1), 1, []), (24, (.goto 4), 3, [28]), (27, (.iconst 0), 1, []), (28, .ireturn, 1, [])]
def co_X10_look : List Ent := [(0, (.aload_n 0), 1, []), (1, (.iload_n 1), 1, []), (2, (.invokestatic 86), 3, [1, 4, 232, 4, 233, 1, 10, 4, 234]), (5, (.ifCond .ne 7), 3, [12]), (8, (.iconst 1), 1, []), (9, (.goto 39), 3, [48]), (12, (.iload_n 2), 1, []), (13, (.iload_n 3), 1, []), (14, (.invokestatic 61), 3, [1, 4, 181, 4, 182, 1, 10, 4, 183]), (17, (.ifCond .eq 14), 3, [31]), (20, (.iload 4), 2, []), (22, (.iconst 1), 1, []), (23, (.bipush 31), 2, []), (25, (.invokestatic 49), 3, [1, 4, 178, 4, 179, 1, 10, 4, 180]), (28, (.ifCond .ne 7), 3, [35]), (31, (.iconst 2), 1, []), (32, (.goto 16), 3, [48]), (35, (.aload_n 0), 1, []), (36, (.iload_n 1), 1, []), (37, (.invokevirtual 89), 3, [4, 235, 4, 237, 1, 10, 4, 238, 0, 20]), (40, (.ifCond .eq 7), 3, [47]), (43, (.iconst 0), 1, []), (44, (.goto 4), 3, [48]), (47, (.iconst 3), 1, []), (48, (.putfield 30), 3, [9, 5, 4, 146]), (51, (.aload_n 0), 1, []), (52, (.getfield 30), 3, [9, 5, 4, 146]), (55, (.ifCond .eq 5), 3, [60]), (58, (.iconst 0), 1, []), (59, .ireturn, 1, []), (60, (.aload_n 0), 1, []), (61, (.invokevirtual 65), 3, [4, 184, 4, 186, 1, 10, 4, 187, 0, 16]), (64, (.aload_n 0), 1, []), (65, (.iload_n 1), 1, []), (66, (.iload_n 2), 1, []), (67, (.iload_n 3), 1, []), (68, (.iload 4), 2, []), (70, (.invokevirtual 92), 3, [5, 3, 5, 5, 1, 10, 5, 6, 0, 22]), (73, (.iconst 0), 1, []), (74, (.istore 5), 2, []), (76, (.iconst 0), 1, []), (77, (.istore 6), 2, []), (79, (.iload 6), 2, []), (81, (.bipush 16), 2, []), (83, (.if_icmp .ge 29), 3, [112]), (86, (.iload 5), 2, []), (88, (.aload_n 0), 1, []), (89, (.iload_n 1), 1, []), (90, (.iload 6), 2, []), (92, (.invokevirtual 102), 3, [5, 11, 5, 13, 1, 10, 5, 14, 0, 23]), (95, (.ifCond .eq 7), 3, [102]), (98, (.iconst 1), 1, []), (99, (.goto 4), 3, [103]), (102, (.iconst 0), 1, []), (103, .iadd, 1, []), (104, (.istore 5), 2, []), (106, (.iinc 6 1), 3, []), (109, (.goto (-30)), 3, [79]), (112, (.iload 5), 2, []), (114, .ireturn, 1, [])]
def co_X10_disconnect : List Ent := [(0, (.aload_n 0), 1, []), (1, (.iload_n 1), 1, []), (2, (.invokestatic 86), 3, [1, 4, 232, 4, 233, 1, 10, 4, 234]), (5, (.ifCond .ne 7), 3, [12]), (8, (.iconst 1), 1, []), (9, (.goto 16), 3, [25]), (12, (.aload_n 0), 1, []), (13, (.iload_n 1), 1, []), (14, (.invokevirtual 89), 3, [4, 235, 4, 237, 1, 10, 4, 238, 0, 20]), (17, (.ifCond .eq 7), 3, [24]), (20, (.iconst 0), 1, []), (21, (.goto 4), 3, [25]), (24, (.iconst 2), 1, []), (25, (.putfield 30), 3, [9, 5, 4, 146]), (28, (.aload_n 0), 1, []), (29, (.getfield 30), 3, [9, 5, 4, 146]), (32, (.ifCond .eq 5), 3, [37]), (35, (.iconst 0), 1, []), (36, .ireturn, 1, []), (37, (.aload_n 0), 1, []), (38, (.invokevirtual 65), 3, [4, 184, 4, 186, 1, 10, 4, 187, 0, 16]), (41, (.aload_n 0), 1, []), (42, (.iload_n 1), 1, []), (43, (.bipush 8), 2, []), (45, (.invokevirtual 80), 3, [4, 239, 5, 1, 1, 10, 5, 2, 0, 21]), (48, (.istore_n 2), 1, []), (49, (.aload_n 0), 1, []), (50, (.iload_n 1), 1, []), (51, (.invokevirtual 26), 3, [4, 131, 4, 133, 1, 10, 4, 134, 0, 15]), (54, (.iload_n 2), 1, []), (55, .ireturn, 1, [])]
def co_X10_setTimes : List Ent := [(0, (.aload_n 0), 1, []), (1, (.iload_n 1), 1, []), (2, (.iconst 1), 1, []), (3, (.bipush 10), 2, []), (5, (.invokestatic 49), 3, [1, 4, 178, 4, 179, 1, 10, 4, 180]), (8, (.ifCond .eq 17), 3, [25]), (11, (.iload_n 2), 1, []), (12, (.iconst 1), 1, []), (13, (.bipush 10), 2, []), (15, (.invokestatic 49), 3, [1, 4, 178, 4, 179, 1, 10, 4, 180]), (18, (.ifCond .eq 7), 3, [25]), (21, (.iconst 0), 1, []), (22, (.goto 4), 3, [26]), (25, (.iconst 1), 1, []), (26, (.putfield 30), 3, [9, 5, 4, 146]), (29, (.aload_n 0), 1, []), (30, (.getfield 30), 3, [9, 5, 4, 146]), (33, (.ifCond .eq 5), 3, [38]), (36, (.iconst 0), 1, []), (37, .ireturn, 1, []), (38, (.aload_n 0), 1, []), (39, (.invokevirtual 65), 3, [4, 184, 4, 186, 1, 10, 4, 187, 0, 16]), (42, (.aload_n 0), 1, []), (43, (.getfield 7), 3, [9, 0, 4, 141]), (46, (.iconst 1), 1, []), (47, .iaload, 1, []), (48, (.istore_n 3), 1, []), (49, (.aload_n 0), 1, []), (50, (.getfield 7), 3, [9, 0, 4, 141]), (53, (.iconst 1), 1, []), (54, (.iload_n 1), 1, []), (55, .iastore, 1, []), (56, (.aload_n 0), 1, []), (57, (.getfield 7), 3, [9, 0, 4, 141]), (60, (.iconst 2), 1, []), (61, (.iload_n 2), 1, []), (62, .iastore, 1, []), (63, (.iload_n 3), 1, []), (64, .ireturn, 1, [])]
def co_X10_lose : List Ent := [(0, (.aload_n 0), 1, []), (1, (.iload_n 1), 1, []), (2, (.invokestatic 86), 3, [1, 4, 232, 4, 233, 1, 10, 4, 234]), (5, (.ifCond .ne 7), 3, [12]), (8, (.iconst 1), 1, []), (9, (.goto 40), 3, [49]), (12, (.iload_n 2), 1, []), (13, (.iconst 0), 1, []), (14, (.bipush 50), 2, []), (16, (.invokestatic 49), 3, [1, 4, 178, 4, 179, 1, 10, 4, 180]), (19, (.ifCond .eq 13), 3, [32]), (22, (.iload_n 3), 1, []), (23, (.iconst 0), 1, []), (24, (.bipush 50), 2, []), (26, (.invokestatic 49), 3, [1, 4, 178, 4, 179, 1, 10, 4, 180]), (29, (.ifCond .ne 7), 3, [36]), (32, (.iconst 2), 1, []), (33, (.goto 16), 3, [49]), (36, (.aload_n 0), 1, []), (37, (.iload_n 1), 1, []), (38, (.invokevirtual 89), 3, [4, 235, 4, 237, 1, 10, 4, 238, 0, 20]), (41, (.ifCond .eq 7), 3, [48]), (44, (.iconst 0), 1, []), (45, (.goto 4), 3, [49]), (48, (.iconst 3), 1, []), (49, (.putfield 30), 3, [9, 5, 4, 146]), (52, (.aload_n 0), 1, []), (53, (.getfield 30), 3, [9, 5, 4, 146]), (56, (.ifCond .eq 5), 3, [61]), (59, (.iconst 0), 1, []), (60, .ireturn, 1, []), (61, (.aload_n 0), 1, []), (62, (.invokevirtual 65), 3, [4, 184, 4, 186, 1, 10, 4, 187, 0, 16]), (65, (.aload_n 0), 1, []), (66, (.iload_n 1), 1, []), (67, (.iconst 5), 1, []), (68, (.invokevirtual 80), 3, [4, 239, 5, 1, 1, 10, 5, 2, 0, 21]), (71, (.istore 4), 2, []), (73, (.aload_n 0), 1, []), (74, (.getfield 7), 3, [9, 0, 4, 141]), (77, (.iload_n 1), 1, []), (78, (.iconst 5), 1, []), (79, (.invokestatic 77), 3, [1, 4, 135, 4, 136, 1, 10, 4, 137]), (82, (.iload_n 2), 1, []), (83, .iastore, 1, []), (84, (.aload_n 0), 1, []), (85, (.getfield 7), 3, [9, 0, 4, 141]), (88, (.iload_n 1), 1, []), (89, (.bipush 6), 2, []), (91, (.invokestatic 77), 3, [1, 4, 135, 4, 136, 1, 10, 4, 137]), (94, (.iload_n 3), 1, []), (95, .iastore, 1, []), (96, (.iload 4), 2, []), (98, .ireturn, 1, [])]
def co_X10_moveOne : List Ent := [(0, (.iconst 3), 1, []), (1, (.iconst 3), 1, []), (2, (.iload_n 1), 1, []), (3, .imul, 1, []), (4, .iadd, 1, []), (5, (.istore_n 3), 1, []), (6, (.aload_n 0), 1, []), (7, (.getfield 7), 3, [9, 0, 4, 141]), (10, (.iload_n 3), 1, []), (11, .iaload, 1, []), (12, (.iload_n 2), 1, []), (13, (.invokestatic 41), 3, [1, 4, 210, 4, 211, 1, 10, 4, 212]), (16, (.aload_n 0), 1, []), (17, (.getfield 7), 3, [9, 0, 4, 141]), (20, (.iload_n 3), 1, []), (21, (.iconst 1), 1, []), (22, .iadd, 1, []), (23, (.iload_n 2), 1, []), (24, .iadd, 1, []), (25, .iaload, 1, []), (26, .iadd, 1, []), (27, (.istore 4), 2, []), (29, (.iload 4), 2, []), (31, (.iconst 0), 1, []), (32, (.bipush 31), 2, []), (34, (.invokestatic 49), 3, [1, 4, 178, 4, 179, 1, 10, 4, 180]), (37, (.ifCond .ne 7), 3, [44]), (40, (.iconst 1), 1, []), (41, (.goto 4), 3, [45]), (44, (.iconst 0), 1, []), (45, (.istore 5), 2, []), (47, (.iload 4), 2, []), (49, (.ifCond .ge 9), 3, [58]), (52, (.iload 4), 2, []), (54, .ineg, 1, []), (55, (.goto 20), 3, [75]), (58, (.iload 4), 2, []), (60, (.bipush 31), 2, []), (62, (.if_icmp .le 11), 3, [73]), (65, (.bipush 62), 2, []), (67, (.iload 4), 2, []), (69, .isub, 1, []), (70, (.goto 5), 3, [75]), (73, (.iload 4), 2, []), (75, (.istore 4), 2, []), (77, (.aload_n 0), 1, []), (78, (.getfield 7), 3, [9, 0, 4, 141]), (81, (.iload_n 3), 1, []), (82, (.iconst 1), 1, []), (83, .iadd, 1, []), (84, (.iload_n 2), 1, []), (85, .iadd, 1, []), (86, .dup2, 1, []), (87, .iaload, 1, []), (88, (.iload 5), 2, []), (90, (.ifCond .eq 7), 3, [97]), (93, (.iconst (-1)), 1, []), (94, (.goto 4), 3, [98]), (97, (.iconst 1), 1, []), (98, .imul, 1, []), (99, .iastore, 1, []), (100, (.aload_n 0), 1, []), (101, (.getfield 7), 3, [9, 0, 4, 141]), (104, (.iload_n 3), 1, []), (105, .dup2, 1, []), (106, .iaload, 1, []), (107, (.iload 4), 2, []), (109, (.aload_n 0), 1, []), (110, (.getfield 7), 3, [9, 0, 4, 141]), (113, (.iload_n 3), 1, []), (114, .iaload, 1, []), (115, (.iload_n 2), 1, []), (116, (.invokestatic 41), 3, [1, 4, 210, 4, 211, 1, 10, 4, 212]), (119, .isub, 1, []), (120, (.iload_n 2), 1, []), (121, (.ifCond .ne 7), 3, [128]), (124, (.iconst 1), 1, []), (125, (.goto 5), 3, [130]), (128, (.bipush 32), 2, []), (130, .imul, 1, []), (131, .iadd, 1, []), (132, .iastore, 1, []), (133, .return_, 1, [])]
def co_X10_packetCell : List Ent := [(0, (.iload_n 1), 1, []), (1, (.bipush 66), 2, []), (3, (.bipush 86), 2, []), (5, (.iload_n 2), 1, []), (6, .imul, 1, []), (7, .iadd, 1, []), (8, (.invokestatic 77), 3, [1, 4, 135, 4, 136, 1, 10, 4, 137]), (11, .ireturn, 1, [])]
def co_X10_addRecord : List Ent := [(0, (.iload_n 1), 1, []), (1, (.iload_n 2), 1, []), (2, (.invokestatic 105), 3, [1, 5, 66, 5, 67, 1, 10, 5, 68]), (5, (.istore 5), 2, []), (7, (.aload_n 0), 1, []), (8, (.getfield 7), 3, [9, 0, 4, 141]), (11, (.iload 5), 2, []), (13, .iaload, 1, []), (14, (.bipush 12), 2, []), (16, (.if_icmp .ne 52), 3, [68]), (19, (.iconst 1), 1, []), (20, (.istore 6), 2, []), (22, (.iload 6), 2, []), (24, (.bipush 23), 2, []), (26, (.if_icmp .ge 31), 3, [57]), (29, (.aload_n 0), 1, []), (30, (.getfield 7), 3, [9, 0, 4, 141]), (33, (.iload 5), 2, []), (35, (.iload 6), 2, []), (37, .iadd, 1, []), (38, (.aload_n 0), 1, []), (39, (.getfield 7), 3, [9, 0, 4, 141]), (42, (.iload 5), 2, []), (44, (.iload 6), 2, []), (46, .iadd, 1, []), (47, (.iconst 2), 1, []), (48, .iadd, 1, []), (49, .iaload, 1, []), (50, .iastore, 1, []), (51, (.iinc 6 1), 3, []), (54, (.goto (-32)), 3, [22]), (57, (.aload_n 0), 1, []), (58, (.getfield 7), 3, [9, 0, 4, 141]), (61, (.iload 5), 2, []), (63, .dup2, 1, []), (64, .iaload, 1, []), (65, (.iconst 1), 1, []), (66, .isub, 1, []), (67, .iastore, 1, []), (68, (.aload_n 0), 1, []), (69, (.getfield 7), 3, [9, 0, 4, 141]), (72, (.iload 5), 2, []), (74, (.iconst 1), 1, []), (75, .iadd, 1, []), (76, (.iconst 2), 1, []), (77, (.aload_n 0), 1, []), (78, (.getfield 7), 3, [9, 0, 4, 141]), (81, (.iload 5), 2, []), (83, .iaload, 1, []), (84, .imul, 1, []), (85, .iadd, 1, []), (86, (.iload_n 3), 1, []), (87, .iastore, 1, []), (88, (.aload_n 0), 1, []), (89, (.getfield 7), 3, [9, 0, 4, 141]), (92, (.iload 5), 2, []), (94, (.iconst 2), 1, []), (95, .iadd, 1, []), (96, (.iconst 2), 1, []), (97, (.aload_n 0), 1, []), (98, (.getfield 7), 3, [9, 0, 4, 141]), (101, (.iload 5), 2, []), (103, .iaload, 1, []), (104, .imul, 1, []), (105, .iadd, 1, []), (106, (.iload 4), 2, []), (108, .iastore, 1, []), (109, (.aload_n 0), 1, []), (110, (.getfield 7), 3, [9, 0, 4, 141]), (113, (.iload 5), 2, []), (115, .dup2, 1, []), (116, .iaload, 1, []), (117, (.iconst 1), 1, []), (118, .iadd, 1, []), (119, .iastore, 1, []), (120, .return_, 1, [])]
def co_X10_lastNumber : List Ent := [(0, (.iload_n 1), 1, []), (1, (.iload_n 2), 1, []), (2, (.invokestatic 105), 3, [1, 5, 66, 5, 67, 1, 10, 5, 68]), (5, (.istore_n 3), 1, []), (6, (.aload_n 0), 1, []), (7, (.getfield 7), 3, [9, 0, 4, 141]), (10, (.iload_n 3), 1, []), (11, .iaload, 1, []), (12, (.ifCond .ne 7), 3, [19]), (15, (.iconst 0), 1, []), (16, (.goto 20), 3, [36]), (19, (.aload_n 0), 1, []), (20, (.getfield 7), 3, [9, 0, 4, 141]), (23, (.iload_n 3), 1, []), (24, (.iconst 2), 1, []), (25, (.aload_n 0), 1, []), (26, (.getfield 7), 3, [9, 0, 4, 141]), (29, (.iload_n 3), 1, []), (30, .iaload, 1, []), (31, .imul, 1, []), (32, .iadd, 1, []), (33, (.iconst 1), 1, []), (34, .isub, 1, []), (35, .iaload, 1, []), (36, .ireturn, 1, [])]
def co_X10_copyState : List Ent := [(0, (.iload_n 1), 1, []), (1, (.iload_n 2), 1, []), (2, (.invokestatic 105), 3, [1, 5, 66, 5, 67, 1, 10, 5, 68]), (5, (.istore_n 3), 1, []), (6, (.aload_n 0), 1, []), (7, (.getfield 7), 3, [9, 0, 4, 141]), (10, (.iload_n 3), 1, []), (11, .iaload, 1, []), (12, (.ifCond .ne 7), 3, [19]), (15, (.iconst (-1)), 1, []), (16, (.goto 18), 3, [34]), (19, (.aload_n 0), 1, []), (20, (.getfield 7), 3, [9, 0, 4, 141]), (23, (.iload_n 3), 1, []), (24, (.iconst 2), 1, []), (25, (.aload_n 0), 1, []), (26, (.getfield 7), 3, [9, 0, 4, 141]), (29, (.iload_n 3), 1, []), (30, .iaload, 1, []), (31, .imul, 1, []), (32, .iadd, 1, []), (33, .iaload, 1, []), (34, .ireturn, 1, [])]
def co_X10_recordState : List Ent := [(0, (.iload_n 1), 1, []), (1, (.iload_n 2), 1, []), (2, (.invokestatic 105), 3, [1, 5, 66, 5, 67, 1, 10, 5, 68]), (5, (.istore 4), 2, []), (7, (.iconst (-1)), 1, []), (8, (.istore 5), 2, []), (10, (.iconst 0), 1, []), (11, (.istore 6), 2, []), (13, (.iload 6), 2, []), (15, (.aload_n 0), 1, []), (16, (.getfield 7), 3, [9, 0, 4, 141]), (19, (.iload 4), 2, []), (21, .iaload, 1, []), (22, (.if_icmp .ge 48), 3, [70]), (25, (.aload_n 0), 1, []), (26, (.getfield 7), 3, [9, 0, 4, 141]), (29, (.iload 4), 2, []), (31, (.iconst 1), 1, []), (32, .iadd, 1, []), (33, (.iconst 2), 1, []), (34, (.iload 6), 2, []), (36, .imul, 1, []), (37, .iadd, 1, []), (38, .iaload, 1, []), (39, (.iload_n 3), 1, []), (40, (.if_icmp .ne 20), 3, [60]), (43, (.aload_n 0), 1, []), (44, (.getfield 7), 3, [9, 0, 4, 141]), (47, (.iload 4), 2, []), (49, (.iconst 2), 1, []), (50, .iadd, 1, []), (51, (.iconst 2), 1, []), (52, (.iload 6), 2, []), (54, .imul, 1, []), (55, .iadd, 1, []), (56, .iaload, 1, []), (57, (.goto 5), 3, [62]), (60, (.iload 5), 2, []), (62, (.istore 5), 2, []), (64, (.iinc 6 1), 3, []), (67, (.goto (-54)), 3, [13]), (70, (.iload 5), 2, []), (72, .ireturn, 1, [])]
def co_X10_receiveEntry : List Ent := [(0, (.aload_n 0), 1, []), (1, (.getfield 7), 3, [9, 0, 4, 141]), (4, (.iload_n 3), 1, []), (5, (.iconst 1), 1, []), (6, .iadd, 1, []), (7, .iaload, 1, []), (8, (.istore 4), 2, []), (10, (.aload_n 0), 1, []), (11, (.iload_n 1), 1, []), (12, (.iload 4), 2, []), (14, (.invokevirtual 108), 3, [5, 62, 5, 64, 1, 10, 5, 65, 0, 31]), (17, (.iload_n 2), 1, []), (18, (.if_icmp .lt 4), 3, [22]), (21, .return_, 1, []), (22, (.aload_n 0), 1, []), (23, (.getfield 7), 3, [9, 0, 4, 141]), (26, (.iload_n 3), 1, []), (27, (.iconst 4), 1, []), (28, .iadd, 1, []), (29, .iaload, 1, []), (30, (.istore 5), 2, []), (32, (.aload_n 0), 1, []), (33, (.getfield 7), 3, [9, 0, 4, 141]), (36, (.iload_n 3), 1, []), (37, .iaload, 1, []), (38, (.iconst 2), 1, []), (39, (.if_icmp .ne 52), 3, [91]), (42, (.aload_n 0), 1, []), (43, (.iload_n 1), 1, []), (44, (.iload 4), 2, []), (46, (.aload_n 0), 1, []), (47, (.getfield 7), 3, [9, 0, 4, 141]), (50, (.iload_n 3), 1, []), (51, (.iconst 2), 1, []), (52, .iadd, 1, []), (53, .iaload, 1, []), (54, (.invokevirtual 111), 3, [5, 69, 5, 71, 1, 10, 5, 72, 0, 32]), (57, (.istore 6), 2, []), (59, (.iload 6), 2, []), (61, (.iconst (-1)), 1, []), (62, (.if_icmp .ne 12), 3, [74]), (65, (.aload_n 0), 1, []), (66, (.iload_n 1), 1, []), (67, (.bipush 13), 2, []), (69, (.iconst 1), 1, []), (70, (.invokevirtual 115), 3, [5, 73, 5, 75, 1, 10, 5, 76, 0, 33]), (73, .return_, 1, []), (74, (.iload 6), 2, []), (76, (.iload 5), 2, []), (78, (.aload_n 0), 1, []), (79, (.getfield 7), 3, [9, 0, 4, 141]), (82, (.iload_n 3), 1, []), (83, (.iconst 3), 1, []), (84, .iadd, 1, []), (85, .iaload, 1, []), (86, (.invokestatic 119), 3, [1, 5, 77, 5, 78, 1, 10, 5, 79]), (89, (.istore 5), 2, []), (91, (.aload_n 0), 1, []), (92, (.iload_n 1), 1, []), (93, (.iload 4), 2, []), (95, (.iload_n 2), 1, []), (96, (.aload_n 0), 1, []), (97, (.getfield 7), 3, [9, 0, 4, 141]), (100, (.iload_n 3), 1, []), (101, .iaload, 1, []), (102, (.ifCond .ne 7), 3, [109]), (105, (.iconst (-1)), 1, []), (106, (.goto 5), 3, [111]), (109, (.iload 5), 2, []), (111, (.invokevirtual 122), 3, [5, 80, 5, 82, 1, 10, 5, 83, 0, 34]), (114, .return_, 1, [])]
def co_X10_receive : List Ent := [(0, (.aload_n 0), 1, []), (1, (.iload_n 1), 1, []), (2, (.iload_n 2), 1, []), (3, (.invokevirtual 125), 3, [5, 50, 5, 52, 1, 10, 5, 53, 0, 28]), (6, (.istore_n 3), 1, []), (7, (.iconst 0), 1, []), (8, (.istore 4), 2, []), (10, (.iload 4), 2, []), (12, (.aload_n 0), 1, []), (13, (.getfield 7), 3, [9, 0, 4, 141]), (16, (.iload_n 3), 1, []), (17, (.iconst 5), 1, []), (18, .iadd, 1, []), (19, .iaload, 1, []), (20, (.if_icmp .ge 31), 3, [51]), (23, (.aload_n 0), 1, []), (24, (.iload_n 1), 1, []), (25, (.aload_n 0), 1, []), (26, (.getfield 7), 3, [9, 0, 4, 141]), (29, (.iload_n 3), 1, []), (30, (.iconst 0), 1, []), (31, .iadd, 1, []), (32, .iaload, 1, []), (33, (.iload_n 3), 1, []), (34, (.bipush 6), 2, []), (36, .iadd, 1, []), (37, (.iconst 5), 1, []), (38, (.iload 4), 2, []), (40, .imul, 1, []), (41, .iadd, 1, []), (42, (.invokevirtual 128), 3, [5, 58, 5, 60, 1, 10, 5, 61, 0, 30]), (45, (.iinc 4 1), 3, []), (48, (.goto (-38)), 3, [10]), (51, (.aload_n 0), 1, []), (52, (.getfield 7), 3, [9, 0, 4, 141]), (55, (.iload_n 3), 1, []), (56, (.iconst 3), 1, []), (57, .iadd, 1, []), (58, (.iconst 0), 1, []), (59, .iastore, 1, []), (60, (.aload_n 0), 1, []), (61, (.iload_n 1), 1, []), (62, (.bipush 6), 2, []), (64, (.invokevirtual 80), 3, [4, 239, 5, 1, 1, 10, 5, 2, 0, 21]), (67, (.ifCond .le 20), 3, [87]), (70, (.aload_n 0), 1, []), (71, (.iload_n 1), 1, []), (72, (.bipush 6), 2, []), (74, (.iconst (-1)), 1, []), (75, (.invokevirtual 115), 3, [5, 73, 5, 75, 1, 10, 5, 76, 0, 33]), (78, (.aload_n 0), 1, []), (79, (.iload_n 1), 1, []), (80, (.bipush 11), 2, []), (82, (.iconst 1), 1, []), (83, (.invokevirtual 115), 3, [5, 73, 5, 75, 1, 10, 5, 76, 0, 33]), (86, .return_, 1, []), (87, (.iload_n 1), 1, []), (88, (.bipush 17), 2, []), (90, (.iconst 2), 1, []), (91, (.aload_n 0), 1, []), (92, (.iload_n 1), 1, []), (93, (.bipush 16), 2, []), (95, (.invokevirtual 80), 3, [4, 239, 5, 1, 1, 10, 5, 2, 0, 21]), (98, .imul, 1, []), (99, .iadd, 1, []), (100, (.invokestatic 77), 3, [1, 4, 135, 4, 136, 1, 10, 4, 137]), (103, (.istore 4), 2, []), (105, (.aload_n 0), 1, []), (106, (.getfield 7), 3, [9, 0, 4, 141]), (109, (.iload 4), 2, []), (111, (.aload_n 0), 1, []), (112, (.getfield 7), 3, [9, 0, 4, 141]), (115, (.iload_n 3), 1, []), (116, (.iconst 0), 1, []), (117, .iadd, 1, []), (118, .iaload, 1, []), (119, .iastore, 1, []), (120, (.aload_n 0), 1, []), (121, (.getfield 7), 3, [9, 0, 4, 141]), (124, (.iload 4), 2, []), (126, (.iconst 1), 1, []), (127, .iadd, 1, []), (128, (.aload_n 0), 1, []), (129, (.getfield 7), 3, [9, 0, 4, 141]), (132, (.iconst 0), 1, []), (133, .iaload, 1, []), (134, (.aload_n 0), 1, []), (135, (.getfield 7), 3, [9, 0, 4, 141]), (138, (.iconst 1), 1, []), (139, .iaload, 1, []), (140, .iadd, 1, []), (141, .iastore, 1, []), (142, (.aload_n 0), 1, []), (143, (.iload_n 1), 1, []), (144, (.bipush 16), 2, []), (146, (.iconst 1), 1, []), (147, (.invokevirtual 115), 3, [5, 73, 5, 75, 1, 10, 5, 76, 0, 33]), (150, .return_, 1, [])]
def co_X10_sweep : List Ent := [(0, (.iconst 0), 1, []), (1, (.istore_n 2), 1, []), (2, (.iconst 0), 1, []), (3, (.istore_n 3), 1, []), (4, (.iload_n 3), 1, []), (5, (.aload_n 0), 1, []), (6, (.iload_n 1), 1, []), (7, (.bipush 65), 2, []), (9, (.invokevirtual 80), 3, [4, 239, 5, 1, 1, 10, 5, 2, 0, 21]), (12, (.if_icmp .ge 89), 3, [101]), (15, (.aload_n 0), 1, []), (16, (.iload_n 1), 1, []), (17, (.iload_n 3), 1, []), (18, (.invokevirtual 125), 3, [5, 50, 5, 52, 1, 10, 5, 53, 0, 28]), (21, (.istore 4), 2, []), (23, (.aload_n 0), 1, []), (24, (.getfield 7), 3, [9, 0, 4, 141]), (27, (.iload 4), 2, []), (29, (.iconst 4), 1, []), (30, .iadd, 1, []), (31, .iaload, 1, []), (32, (.iconst 1), 1, []), (33, (.if_icmp .eq 15), 3, [48]), (36, (.aload_n 0), 1, []), (37, (.getfield 7), 3, [9, 0, 4, 141]), (40, (.iload 4), 2, []), (42, (.iconst 3), 1, []), (43, .iadd, 1, []), (44, .iaload, 1, []), (45, (.ifCond .le 50), 3, [95]), (48, (.aload_n 0), 1, []), (49, (.iload_n 1), 1, []), (50, (.iload_n 2), 1, []), (51, (.invokevirtual 125), 3, [5, 50, 5, 52, 1, 10, 5, 53, 0, 28]), (54, (.istore 5), 2, []), (56, (.iconst 0), 1, []), (57, (.istore 6), 2, []), (59, (.iload 6), 2, []), (61, (.bipush 86), 2, []), (63, (.if_icmp .ge 29), 3, [92]), (66, (.aload_n 0), 1, []), (67, (.getfield 7), 3, [9, 0, 4, 141]), (70, (.iload 5), 2, []), (72, (.iload 6), 2, []), (74, .iadd, 1, []), (75, (.aload_n 0), 1, []), (76, (.getfield 7), 3, [9, 0, 4, 141]), (79, (.iload 4), 2, []), (81, (.iload 6), 2, []), (83, .iadd, 1, []), (84, .iaload, 1, []), (85, .iastore, 1, []), (86, (.iinc 6 1), 3, []), (89, (.goto (-30)), 3, [59]), (92, (.iinc 2 1), 3, []), (95, (.iinc 3 1), 3, []), (98, (.goto (-94)), 3, [4]), (101, (.aload_n 0), 1, []), (102, (.getfield 7), 3, [9, 0, 4, 141]), (105, (.iload_n 1), 1, []), (106, (.bipush 65), 2, []), (108, (.invokestatic 77), 3, [1, 4, 135, 4, 136, 1, 10, 4, 137]), (111, (.iload_n 2), 1, []), (112, .iastore, 1, []), (113, .return_, 1, [])]
def co_X10_acknowledge : List Ent := [(0, (.aload_n 0), 1, []), (1, (.iload_n 1), 1, []), (2, (.bipush 12), 2, []), (4, (.iconst 1), 1, []), (5, (.invokevirtual 115), 3, [5, 73, 5, 75, 1, 10, 5, 76, 0, 33]), (8, (.iconst 0), 1, []), (9, (.istore_n 3), 1, []), (10, (.iconst 0), 1, []), (11, (.istore 4), 2, []), (13, (.iload 4), 2, []), (15, (.aload_n 0), 1, []), (16, (.iload_n 1), 1, []), (17, (.bipush 65), 2, []), (19, (.invokevirtual 80), 3, [4, 239, 5, 1, 1, 10, 5, 2, 0, 21]), (22, (.if_icmp .ge 85), 3, [107]), (25, (.aload_n 0), 1, []), (26, (.iload_n 1), 1, []), (27, (.iload 4), 2, []), (29, (.invokevirtual 125), 3, [5, 50, 5, 52, 1, 10, 5, 53, 0, 28]), (32, (.istore 5), 2, []), (34, (.aload_n 0), 1, []), (35, (.getfield 7), 3, [9, 0, 4, 141]), (38, (.iload 5), 2, []), (40, (.iconst 0), 1, []), (41, .iadd, 1, []), (42, .iaload, 1, []), (43, (.iload_n 2), 1, []), (44, (.if_icmp .ne 57), 3, [101]), (47, (.aload_n 0), 1, []), (48, (.getfield 7), 3, [9, 0, 4, 141]), (51, (.iload 5), 2, []), (53, (.iconst 4), 1, []), (54, .iadd, 1, []), (55, .iaload, 1, []), (56, (.iconst 1), 1, []), (57, (.if_icmp .ne 44), 3, [101]), (60, (.iconst 1), 1, []), (61, (.istore_n 3), 1, []), (62, (.iconst 0), 1, []), (63, (.istore 6), 2, []), (65, (.iload 6), 2, []), (67, (.aload_n 0), 1, []), (68, (.getfield 7), 3, [9, 0, 4, 141]), (71, (.iload 5), 2, []), (73, (.iconst 5), 1, []), (74, .iadd, 1, []), (75, .iaload, 1, []), (76, (.if_icmp .ge 25), 3, [101]), (79, (.aload_n 0), 1, []), (80, (.iload_n 1), 1, []), (81, (.iload_n 2), 1, []), (82, (.iload 5), 2, []), (84, (.bipush 6), 2, []), (86, .iadd, 1, []), (87, (.iconst 5), 1, []), (88, (.iload 6), 2, []), (90, .imul, 1, []), (91, .iadd, 1, []), (92, (.invokevirtual 131), 3, [5, 92, 5, 94, 1, 10, 5, 95, 0, 37]), (95, (.iinc 6 1), 3, []), (98, (.goto (-33)), 3, [65]), (101, (.iinc 4 1), 3, []), (104, (.goto (-91)), 3, [13]), (107, (.iconst 0), 1, []), (108, (.istore 4), 2, []), (110, (.iload 4), 2, []), (112, (.aload_n 0), 1, []), (113, (.iload_n 1), 1, []), (114, (.bipush 65), 2, []), (116, (.invokevirtual 80), 3, [4, 239, 5, 1, 1, 10, 5, 2, 0, 21]), (119, (.if_icmp .ge 57), 3, [176]), (122, (.iload_n 3), 1, []), (123, (.ifCond .eq 53), 3, [176]), (126, (.aload_n 0), 1, []), (127, (.iload_n 1), 1, []), (128, (.iload 4), 2, []), (130, (.invokevirtual 125), 3, [5, 50, 5, 52, 1, 10, 5, 53, 0, 28]), (133, (.istore 5), 2, []), (135, (.aload_n 0), 1, []), (136, (.getfield 7), 3, [9, 0, 4, 141]), (139, (.iload 5), 2, []), (141, (.iconst 4), 1, []), (142, .iadd, 1, []), (143, (.aload_n 0), 1, []), (144, (.getfield 7), 3, [9, 0, 4, 141]), (147, (.iload 5), 2, []), (149, (.iconst 0), 1, []), (150, .iadd, 1, []), (151, .iaload, 1, []), (152, (.iload_n 2), 1, []), (153, (.if_icmp .gt 7), 3, [160]), (156, (.iconst 0), 1, []), (157, (.goto 12), 3, [169]), (160, (.aload_n 0), 1, []), (161, (.getfield 7), 3, [9, 0, 4, 141]), (164, (.iload 5), 2, []), (166, (.iconst 4), 1, []), (167, .iadd, 1, []), (168, .iaload, 1, []), (169, .iastore, 1, []), (170, (.iinc 4 1), 3, []), (173, (.goto (-63)), 3, [110]), (176, (.aload_n 0), 1, []), (177, (.iload_n 1), 1, []), (178, (.invokevirtual 134), 3, [5, 84, 5, 86, 1, 10, 5, 87, 0, 35]), (181, .return_, 1, [])]
def co_X10_settle : List Ent := [(0, (.iload_n 1), 1, []), (1, (.aload_n 0), 1, []), (2, (.getfield 7), 3, [9, 0, 4, 141]), (5, (.iload_n 3), 1, []), (6, (.iconst 1), 1, []), (7, .iadd, 1, []), (8, .iaload, 1, []), (9, (.invokestatic 83), 3, [1, 4, 138, 4, 139, 1, 10, 4, 140]), (12, (.istore 4), 2, []), (14, (.iload_n 2), 1, []), (15, (.aload_n 0), 1, []), (16, (.getfield 7), 3, [9, 0, 4, 141]), (19, (.iload 4), 2, []), (21, (.iconst 1), 1, []), (22, .iadd, 1, []), (23, .iaload, 1, []), (24, (.if_icmp .le 43), 3, [67]), (27, (.aload_n 0), 1, []), (28, (.getfield 7), 3, [9, 0, 4, 141]), (31, (.iload 4), 2, []), (33, (.iconst 1), 1, []), (34, .iadd, 1, []), (35, (.iload_n 2), 1, []), (36, .iastore, 1, []), (37, (.aload_n 0), 1, []), (38, (.getfield 7), 3, [9, 0, 4, 141]), (41, (.iload 4), 2, []), (43, (.iconst 2), 1, []), (44, .iadd, 1, []), (45, (.aload_n 0), 1, []), (46, (.getfield 7), 3, [9, 0, 4, 141]), (49, (.iload_n 3), 1, []), (50, .iaload, 1, []), (51, (.ifCond .ne 7), 3, [58]), (54, (.iconst (-1)), 1, []), (55, (.goto 11), 3, [66]), (58, (.aload_n 0), 1, []), (59, (.getfield 7), 3, [9, 0, 4, 141]), (62, (.iload_n 3), 1, []), (63, (.iconst 4), 1, []), (64, .iadd, 1, []), (65, .iaload, 1, []), (66, .iastore, 1, []), (67, .return_, 1, [])]
def co_X10_arriveAll : List Ent := [(0, (.iconst 0), 1, []), (1, (.istore_n 2), 1, []), (2, (.iload_n 2), 1, []), (3, (.aload_n 0), 1, []), (4, (.iload_n 1), 1, []), (5, (.bipush 65), 2, []), (7, (.invokevirtual 80), 3, [4, 239, 5, 1, 1, 10, 5, 2, 0, 21]), (10, (.if_icmp .ge 37), 3, [47]), (13, (.aload_n 0), 1, []), (14, (.getfield 7), 3, [9, 0, 4, 141]), (17, (.aload_n 0), 1, []), (18, (.iload_n 1), 1, []), (19, (.iload_n 2), 1, []), (20, (.invokevirtual 125), 3, [5, 50, 5, 52, 1, 10, 5, 53, 0, 28]), (23, (.iconst 3), 1, []), (24, .iadd, 1, []), (25, .iaload, 1, []), (26, (.aload_n 0), 1, []), (27, (.getfield 7), 3, [9, 0, 4, 141]), (30, (.iconst 0), 1, []), (31, .iaload, 1, []), (32, (.if_icmp .ne 9), 3, [41]), (35, (.aload_n 0), 1, []), (36, (.iload_n 1), 1, []), (37, (.iload_n 2), 1, []), (38, (.invokevirtual 137), 3, [5, 54, 5, 56, 1, 10, 5, 57, 0, 29]), (41, (.iinc 2 1), 3, []), (44, (.goto (-42)), 3, [2]), (47, (.aload_n 0), 1, []), (48, (.iload_n 1), 1, []), (49, (.invokevirtual 134), 3, [5, 84, 5, 86, 1, 10, 5, 87, 0, 35]), (52, (.iconst 0), 1, []), (53, (.istore_n 2), 1, []), (54, (.aload_n 0), 1, []), (55, (.iload_n 1), 1, []), (56, (.bipush 16), 2, []), (58, (.invokevirtual 80), 3, [4, 239, 5, 1, 1, 10, 5, 2, 0, 21]), (61, (.istore_n 3), 1, []), (62, (.iconst 0), 1, []), (63, (.istore 4), 2, []), (65, (.iload 4), 2, []), (67, (.iload_n 3), 1, []), (68, (.if_icmp .ge 106), 3, [174]), (71, (.iload_n 1), 1, []), (72, (.bipush 17), 2, []), (74, (.iconst 2), 1, []), (75, (.iload 4), 2, []), (77, .imul, 1, []), (78, .iadd, 1, []), (79, (.invokestatic 77), 3, [1, 4, 135, 4, 136, 1, 10, 4, 137]), (82, (.istore 5), 2, []), (84, (.aload_n 0), 1, []), (85, (.getfield 7), 3, [9, 0, 4, 141]), (88, (.iload 5), 2, []), (90, (.iconst 1), 1, []), (91, .iadd, 1, []), (92, .iaload, 1, []), (93, (.aload_n 0), 1, []), (94, (.getfield 7), 3, [9, 0, 4, 141]), (97, (.iconst 0), 1, []), (98, .iaload, 1, []), (99, (.if_icmp .ne 18), 3, [117]), (102, (.aload_n 0), 1, []), (103, (.iload_n 1), 1, []), (104, (.aload_n 0), 1, []), (105, (.getfield 7), 3, [9, 0, 4, 141]), (108, (.iload 5), 2, []), (110, .iaload, 1, []), (111, (.invokevirtual 141), 3, [5, 88, 5, 90, 1, 10, 5, 91, 0, 36]), (114, (.goto 54), 3, [168]), (117, (.aload_n 0), 1, []), (118, (.getfield 7), 3, [9, 0, 4, 141]), (121, (.iload_n 1), 1, []), (122, (.bipush 17), 2, []), (124, (.iconst 2), 1, []), (125, (.iload_n 2), 1, []), (126, .imul, 1, []), (127, .iadd, 1, []), (128, (.invokestatic 77), 3, [1, 4, 135, 4, 136, 1, 10, 4, 137]), (131, (.aload_n 0), 1, []), (132, (.getfield 7), 3, [9, 0, 4, 141]), (135, (.iload 5), 2, []), (137, .iaload, 1, []), (138, .iastore, 1, []), (139, (.aload_n 0), 1, []), (140, (.getfield 7), 3, [9, 0, 4, 141]), (143, (.iload_n 1), 1, []), (144, (.bipush 17), 2, []), (146, (.iconst 2), 1, []), (147, (.iload_n 2), 1, []), (148, .imul, 1, []), (149, .iadd, 1, []), (150, (.invokestatic 77), 3, [1, 4, 135, 4, 136, 1, 10, 4, 137]), (153, (.iconst 1), 1, []), (154, .iadd, 1, []), (155, (.aload_n 0), 1, []), (156, (.getfield 7), 3, [9, 0, 4, 141]), (159, (.iload 5), 2, []), (161, (.iconst 1), 1, []), (162, .iadd, 1, []), (163, .iaload, 1, []), (164, .iastore, 1, []), (165, (.iinc 2 1), 3, []), (168, (.iinc 4 1), 3, []), (171, (.goto (-106)), 3, [65]), (174, (.aload_n 0), 1, []), (175, (.getfield 7), 3, [9, 0, 4, 141]), (178, (.iload_n 1), 1, []), (179, (.bipush 16), 2, []), (181, (.invokestatic 77), 3, [1, 4, 135, 4, 136, 1, 10, 4, 137]), (184, (.iload_n 2), 1, []), (185, .iastore, 1, []), (186, .return_, 1, [])]
def co_X10_giveUp : List Ent := [(0, (.iconst 0), 1, []), (1, (.istore_n 2), 1, []), (2, (.iload_n 2), 1, []), (3, (.aload_n 0), 1, []), (4, (.iload_n 1), 1, []), (5, (.bipush 65), 2, []), (7, (.invokevirtual 80), 3, [4, 239, 5, 1, 1, 10, 5, 2, 0, 21]), (10, (.if_icmp .ge 78), 3, [88]), (13, (.aload_n 0), 1, []), (14, (.iload_n 1), 1, []), (15, (.iload_n 2), 1, []), (16, (.invokevirtual 125), 3, [5, 50, 5, 52, 1, 10, 5, 53, 0, 28]), (19, (.istore_n 3), 1, []), (20, (.aload_n 0), 1, []), (21, (.getfield 7), 3, [9, 0, 4, 141]), (24, (.iload_n 3), 1, []), (25, (.iconst 4), 1, []), (26, .iadd, 1, []), (27, .iaload, 1, []), (28, (.iconst 1), 1, []), (29, (.if_icmp .ne 53), 3, [82]), (32, (.aload_n 0), 1, []), (33, (.getfield 7), 3, [9, 0, 4, 141]), (36, (.iconst 0), 1, []), (37, .iaload, 1, []), (38, (.aload_n 0), 1, []), (39, (.getfield 7), 3, [9, 0, 4, 141]), (42, (.iload_n 3), 1, []), (43, (.iconst 2), 1, []), (44, .iadd, 1, []), (45, .iaload, 1, []), (46, .isub, 1, []), (47, (.iconst 4), 1, []), (48, (.aload_n 0), 1, []), (49, (.getfield 7), 3, [9, 0, 4, 141]), (52, (.iconst 1), 1, []), (53, .iaload, 1, []), (54, .imul, 1, []), (55, (.aload_n 0), 1, []), (56, (.getfield 7), 3, [9, 0, 4, 141]), (59, (.iconst 2), 1, []), (60, .iaload, 1, []), (61, .iadd, 1, []), (62, (.if_icmp .lt 20), 3, [82]), (65, (.aload_n 0), 1, []), (66, (.getfield 7), 3, [9, 0, 4, 141]), (69, (.iload_n 3), 1, []), (70, (.iconst 4), 1, []), (71, .iadd, 1, []), (72, (.iconst 0), 1, []), (73, .iastore, 1, []), (74, (.aload_n 0), 1, []), (75, (.iload_n 1), 1, []), (76, (.bipush 14), 2, []), (78, (.iconst 1), 1, []), (79, (.invokevirtual 115), 3, [5, 73, 5, 75, 1, 10, 5, 76, 0, 33]), (82, (.iinc 2 1), 3, []), (85, (.goto (-83)), 3, [2]), (88, (.aload_n 0), 1, []), (89, (.iload_n 1), 1, []), (90, (.invokevirtual 134), 3, [5, 84, 5, 86, 1, 10, 5, 87, 0, 35]), (93, .return_, 1, [])]
def co_X10_weight : List Ent := [(0, (.iconst 1), 1, []), (1, (.iload_n 0), 1, []), (2, .ishl, 1, []), (3, .ireturn, 1, [])]
def co_X10_raise : List Ent := [(0, (.iload_n 1), 1, []), (1, (.iload_n 2), 1, []), (2, (.invokestatic 83), 3, [1, 4, 138, 4, 139, 1, 10, 4, 140]), (5, (.istore_n 3), 1, []), (6, (.aload_n 0), 1, []), (7, (.getfield 7), 3, [9, 0, 4, 141]), (10, (.iload_n 3), 1, []), (11, (.iconst 2), 1, []), (12, .iadd, 1, []), (13, .iaload, 1, []), (14, (.istore 4), 2, []), (16, (.aload_n 0), 1, []), (17, (.iload_n 1), 1, []), (18, (.iload_n 2), 1, []), (19, (.invokevirtual 102), 3, [5, 11, 5, 13, 1, 10, 5, 14, 0, 23]), (22, (.ifCond .eq 67), 3, [89]), (25, (.iload 4), 2, []), (27, (.aload_n 0), 1, []), (28, (.iload_n 2), 1, []), (29, (.invokevirtual 53), 3, [4, 195, 4, 197, 1, 10, 4, 198, 0, 18]), (32, (.if_icmp .eq 7), 3, [39]), (35, (.iconst 1), 1, []), (36, (.goto 4), 3, [40]), (39, (.iconst 0), 1, []), (40, (.istore 5), 2, []), (42, (.aload_n 0), 1, []), (43, (.getfield 7), 3, [9, 0, 4, 141]), (46, (.iload_n 3), 1, []), (47, (.iload 5), 2, []), (49, (.ifCond .eq 35), 3, [84]), (52, (.aload_n 0), 1, []), (53, (.getfield 7), 3, [9, 0, 4, 141]), (56, (.iload_n 3), 1, []), (57, .iaload, 1, []), (58, (.aload_n 0), 1, []), (59, (.iload_n 2), 1, []), (60, (.invokevirtual 53), 3, [4, 195, 4, 197, 1, 10, 4, 198, 0, 18]), (63, (.iconst 2), 1, []), (64, (.invokestatic 41), 3, [1, 4, 210, 4, 211, 1, 10, 4, 212]), (67, (.invokestatic 144), 3, [1, 5, 108, 5, 109, 1, 10, 5, 110]), (70, (.bipush 32), 2, []), (72, (.aload_n 0), 1, []), (73, (.iload_n 1), 1, []), (74, (.iload_n 2), 1, []), (75, (.invokevirtual 99), 3, [5, 15, 5, 17, 1, 10, 5, 18, 0, 24]), (78, .isub, 1, []), (79, .imul, 1, []), (80, .iadd, 1, []), (81, (.goto 4), 3, [85]), (84, (.iconst 0), 1, []), (85, .iastore, 1, []), (86, (.goto 28), 3, [114]), (89, (.aload_n 0), 1, []), (90, (.getfield 7), 3, [9, 0, 4, 141]), (93, (.iload_n 3), 1, []), (94, (.iload 4), 2, []), (96, (.iconst (-1)), 1, []), (97, (.if_icmp .eq 15), 3, [112]), (100, (.aload_n 0), 1, []), (101, (.getfield 7), 3, [9, 0, 4, 141]), (104, (.iload_n 3), 1, []), (105, .iaload, 1, []), (106, (.bipush 100), 2, []), (108, .iadd, 1, []), (109, (.goto 4), 3, [113]), (112, (.iconst 0), 1, []), (113, .iastore, 1, []), (114, .return_, 1, [])]
def co_X10_flying : List Ent := [(0, (.iconst 0), 1, []), (1, (.istore_n 2), 1, []), (2, (.iconst 0), 1, []), (3, (.istore_n 3), 1, []), (4, (.iload_n 3), 1, []), (5, (.aload_n 0), 1, []), (6, (.iload_n 1), 1, []), (7, (.bipush 65), 2, []), (9, (.invokevirtual 80), 3, [4, 239, 5, 1, 1, 10, 5, 2, 0, 21]), (12, (.if_icmp .ge 25), 3, [37]), (15, (.iload_n 2), 1, []), (16, (.aload_n 0), 1, []), (17, (.getfield 7), 3, [9, 0, 4, 141]), (20, (.aload_n 0), 1, []), (21, (.iload_n 1), 1, []), (22, (.iload_n 3), 1, []), (23, (.invokevirtual 125), 3, [5, 50, 5, 52, 1, 10, 5, 53, 0, 28]), (26, (.iconst 4), 1, []), (27, .iadd, 1, []), (28, .iaload, 1, []), (29, .iadd, 1, []), (30, (.istore_n 2), 1, []), (31, (.iinc 3 1), 3, []), (34, (.goto (-30)), 3, [4]), (37, (.iload_n 2), 1, []), (38, .ireturn, 1, [])]
def co_X10_priceOf : List Ent := [(0, (.aload_n 0), 1, []), (1, (.getfield 7), 3, [9, 0, 4, 141]), (4, (.iload_n 1), 1, []), (5, (.iload_n 2), 1, []), (6, (.invokestatic 83), 3, [1, 4, 138, 4, 139, 1, 10, 4, 140]), (9, (.iconst 2), 1, []), (10, .iadd, 1, []), (11, .iaload, 1, []), (12, (.istore_n 3), 1, []), (13, (.aload_n 0), 1, []), (14, (.iload_n 1), 1, []), (15, (.iload_n 2), 1, []), (16, (.invokevirtual 102), 3, [5, 11, 5, 13, 1, 10, 5, 14, 0, 23]), (19, (.ifCond .ne 14), 3, [33]), (22, (.iload_n 3), 1, []), (23, (.iconst (-1)), 1, []), (24, (.if_icmp .ne 7), 3, [31]), (27, (.iconst 0), 1, []), (28, (.goto 4), 3, [32]), (31, (.iconst 2), 1, []), (32, .ireturn, 1, []), (33, (.iload_n 3), 1, []), (34, (.iconst (-1)), 1, []), (35, (.if_icmp .ne 8), 3, [43]), (38, (.bipush 6), 2, []), (40, (.goto 30), 3, [70]), (43, (.iload_n 3), 1, []), (44, (.aload_n 0), 1, []), (45, (.iload_n 2), 1, []), (46, (.invokevirtual 53), 3, [4, 195, 4, 197, 1, 10, 4, 198, 0, 18]), (49, (.if_icmp .ne 7), 3, [56]), (52, (.iconst 0), 1, []), (53, (.goto 17), 3, [70]), (56, (.iconst 2), 1, []), (57, (.iload_n 3), 1, []), (58, (.aload_n 0), 1, []), (59, (.iload_n 2), 1, []), (60, (.invokevirtual 53), 3, [4, 195, 4, 197, 1, 10, 4, 198, 0, 18]), (63, (.invokestatic 147), 3, [1, 5, 127, 5, 128, 1, 10, 5, 129]), (66, (.invokestatic 150), 3, [1, 5, 130, 5, 131, 1, 10, 5, 132]), (69, .iadd, 1, []), (70, .ireturn, 1, [])]
def co_X10_nextByPriority : List Ent := [(0, (.iconst (-1)), 1, []), (1, (.istore_n 2), 1, []), (2, (.iconst 0), 1, []), (3, (.istore_n 3), 1, []), (4, (.iload_n 3), 1, []), (5, (.bipush 16), 2, []), (7, (.if_icmp .ge 61), 3, [68]), (10, (.aload_n 0), 1, []), (11, (.getfield 7), 3, [9, 0, 4, 141]), (14, (.iload_n 1), 1, []), (15, (.iload_n 3), 1, []), (16, (.invokestatic 83), 3, [1, 4, 138, 4, 139, 1, 10, 4, 140]), (19, .iaload, 1, []), (20, (.istore 4), 2, []), (22, (.aload_n 0), 1, []), (23, (.getfield 22), 3, [9, 6, 4, 147]), (26, (.iload_n 3), 1, []), (27, .baload, 1, []), (28, (.ifCond .ne 32), 3, [60]), (31, (.iload 4), 2, []), (33, (.ifCond .le 27), 3, [60]), (36, (.iload_n 2), 1, []), (37, (.iconst (-1)), 1, []), (38, (.if_icmp .eq 18), 3, [56]), (41, (.iload 4), 2, []), (43, (.aload_n 0), 1, []), (44, (.getfield 7), 3, [9, 0, 4, 141]), (47, (.iload_n 1), 1, []), (48, (.iload_n 2), 1, []), (49, (.invokestatic 83), 3, [1, 4, 138, 4, 139, 1, 10, 4, 140]), (52, .iaload, 1, []), (53, (.if_icmp .le 7), 3, [60]), (56, (.iload_n 3), 1, []), (57, (.goto 4), 3, [61]), (60, (.iload_n 2), 1, []), (61, (.istore_n 2), 1, []), (62, (.iinc 3 1), 3, []), (65, (.goto (-61)), 3, [4]), (68, (.iload_n 2), 1, []), (69, .ireturn, 1, [])]
def co_X10_putEntry : List Ent := [(0, (.iload_n 1), 1, []), (1, (.iload_n 3), 1, []), (2, (.invokestatic 83), 3, [1, 4, 138, 4, 139, 1, 10, 4, 140]), (5, (.istore 4), 2, []), (7, (.aload_n 0), 1, []), (8, (.iload_n 1), 1, []), (9, (.iload_n 3), 1, []), (10, (.invokevirtual 102), 3, [5, 11, 5, 13, 1, 10, 5, 14, 0, 23]), (13, (.istore 5), 2, []), (15, (.iload 5), 2, []), (17, (.ifCond .eq 20), 3, [37]), (20, (.aload_n 0), 1, []), (21, (.getfield 7), 3, [9, 0, 4, 141]), (24, (.iload 4), 2, []), (26, (.iconst 2), 1, []), (27, .iadd, 1, []), (28, .iaload, 1, []), (29, (.iconst (-1)), 1, []), (30, (.if_icmp .ne 7), 3, [37]), (33, (.iconst 1), 1, []), (34, (.goto 4), 3, [38]), (37, (.iconst 0), 1, []), (38, (.istore 6), 2, []), (40, (.aload_n 0), 1, []), (41, (.getfield 7), 3, [9, 0, 4, 141]), (44, (.iload_n 2), 1, []), (45, (.iload 5), 2, []), (47, (.ifCond .ne 7), 3, [54]), (50, (.iconst 0), 1, []), (51, (.goto 13), 3, [64]), (54, (.iload 6), 2, []), (56, (.ifCond .eq 7), 3, [63]), (59, (.iconst 1), 1, []), (60, (.goto 4), 3, [64]), (63, (.iconst 2), 1, []), (64, .iastore, 1, []), (65, (.aload_n 0), 1, []), (66, (.getfield 7), 3, [9, 0, 4, 141]), (69, (.iload_n 2), 1, []), (70, (.iconst 1), 1, []), (71, .iadd, 1, []), (72, (.iload_n 3), 1, []), (73, .iastore, 1, []), (74, (.aload_n 0), 1, []), (75, (.getfield 7), 3, [9, 0, 4, 141]), (78, (.iload_n 2), 1, []), (79, (.iconst 2), 1, []), (80, .iadd, 1, []), (81, (.iload 5), 2, []), (83, (.ifCond .eq 20), 3, [103]), (86, (.iload 6), 2, []), (88, (.ifCond .ne 15), 3, [103]), (91, (.aload_n 0), 1, []), (92, (.getfield 7), 3, [9, 0, 4, 141]), (95, (.iload 4), 2, []), (97, (.iconst 1), 1, []), (98, .iadd, 1, []), (99, .iaload, 1, []), (100, (.goto 4), 3, [104]), (103, (.iconst 0), 1, []), (104, .iastore, 1, []), (105, (.aload_n 0), 1, []), (106, (.getfield 7), 3, [9, 0, 4, 141]), (109, (.iload_n 2), 1, []), (110, (.iconst 3), 1, []), (111, .iadd, 1, []), (112, (.iload 5), 2, []), (114, (.ifCond .ne 7), 3, [121]), (117, (.iconst 0), 1, []), (118, (.goto 30), 3, [148]), (121, (.iload 6), 2, []), (123, (.ifCond .eq 8), 3, [131]), (126, (.bipush 15), 2, []), (128, (.goto 20), 3, [148]), (131, (.aload_n 0), 1, []), (132, (.getfield 7), 3, [9, 0, 4, 141]), (135, (.iload 4), 2, []), (137, (.iconst 2), 1, []), (138, .iadd, 1, []), (139, .iaload, 1, []), (140, (.aload_n 0), 1, []), (141, (.iload_n 3), 1, []), (142, (.invokevirtual 53), 3, [4, 195, 4, 197, 1, 10, 4, 198, 0, 18]), (145, (.invokestatic 147), 3, [1, 5, 127, 5, 128, 1, 10, 5, 129]), (148, .iastore, 1, []), (149, (.aload_n 0), 1, []), (150, (.getfield 7), 3, [9, 0, 4, 141]), (153, (.iload_n 2), 1, []), (154, (.iconst 4), 1, []), (155, .iadd, 1, []), (156, (.iload 5), 2, []), (158, (.ifCond .eq 11), 3, [169]), (161, (.aload_n 0), 1, []), (162, (.iload_n 3), 1, []), (163, (.invokevirtual 53), 3, [4, 195, 4, 197, 1, 10, 4, 198, 0, 18]), (166, (.goto 4), 3, [170]), (169, (.iconst (-1)), 1, []), (170, .iastore, 1, []), (171, .return_, 1, [])]
def co_X10_send : List Ent := [(0, (.aload_n 0), 1, []), (1, (.iload_n 1), 1, []), (2, (.aload_n 0), 1, []), (3, (.iload_n 1), 1, []), (4, (.bipush 65), 2, []), (6, (.invokevirtual 80), 3, [4, 239, 5, 1, 1, 10, 5, 2, 0, 21]), (9, (.invokevirtual 125), 3, [5, 50, 5, 52, 1, 10, 5, 53, 0, 28]), (12, (.istore_n 2), 1, []), (13, (.iconst 0), 1, []), (14, (.istore_n 3), 1, []), (15, (.iload_n 3), 1, []), (16, (.bipush 16), 2, []), (18, (.if_icmp .ge 16), 3, [34]), (21, (.aload_n 0), 1, []), (22, (.getfield 22), 3, [9, 6, 4, 147]), (25, (.iload_n 3), 1, []), (26, (.iconst 0), 1, []), (27, .bastore, 1, []), (28, (.iinc 3 1), 3, []), (31, (.goto (-16)), 3, [15]), (34, (.aload_n 0), 1, []), (35, (.getfield 7), 3, [9, 0, 4, 141]), (38, (.iload_n 2), 1, []), (39, (.iconst 1), 1, []), (40, .iadd, 1, []), (41, (.iconst 4), 1, []), (42, .iastore, 1, []), (43, (.aload_n 0), 1, []), (44, (.getfield 7), 3, [9, 0, 4, 141]), (47, (.iload_n 2), 1, []), (48, (.iconst 5), 1, []), (49, .iadd, 1, []), (50, (.iconst 0), 1, []), (51, .iastore, 1, []), (52, (.aload_n 0), 1, []), (53, (.iload_n 1), 1, []), (54, (.invokevirtual 153), 3, [5, 119, 5, 121, 1, 10, 5, 122, 0, 43]), (57, (.istore_n 3), 1, []), (58, (.iload_n 3), 1, []), (59, (.iconst (-1)), 1, []), (60, (.if_icmp .eq 104), 3, [164]), (63, (.aload_n 0), 1, []), (64, (.getfield 22), 3, [9, 6, 4, 147]), (67, (.iload_n 3), 1, []), (68, (.iconst 1), 1, []), (69, .bastore, 1, []), (70, (.aload_n 0), 1, []), (71, (.iload_n 1), 1, []), (72, (.iload_n 3), 1, []), (73, (.invokevirtual 156), 3, [5, 123, 5, 125, 1, 10, 5, 126, 0, 44]), (76, (.istore 4), 2, []), (78, (.aload_n 0), 1, []), (79, (.getfield 7), 3, [9, 0, 4, 141]), (82, (.iload_n 2), 1, []), (83, (.iconst 1), 1, []), (84, .iadd, 1, []), (85, .iaload, 1, []), (86, (.iload 4), 2, []), (88, .iadd, 1, []), (89, (.aload_n 0), 1, []), (90, (.iload_n 1), 1, []), (91, (.iconst 4), 1, []), (92, (.invokevirtual 80), 3, [4, 239, 5, 1, 1, 10, 5, 2, 0, 21]), (95, (.if_icmp .gt 60), 3, [155]), (98, (.aload_n 0), 1, []), (99, (.iload_n 1), 1, []), (100, (.iload_n 2), 1, []), (101, (.bipush 6), 2, []), (103, .iadd, 1, []), (104, (.iconst 5), 1, []), (105, (.aload_n 0), 1, []), (106, (.getfield 7), 3, [9, 0, 4, 141]), (109, (.iload_n 2), 1, []), (110, (.iconst 5), 1, []), (111, .iadd, 1, []), (112, .iaload, 1, []), (113, .imul, 1, []), (114, .iadd, 1, []), (115, (.iload_n 3), 1, []), (116, (.invokevirtual 159), 3, [5, 133, 5, 135, 1, 10, 5, 136, 0, 45]), (119, (.aload_n 0), 1, []), (120, (.getfield 7), 3, [9, 0, 4, 141]), (123, (.iload_n 2), 1, []), (124, (.iconst 1), 1, []), (125, .iadd, 1, []), (126, .dup2, 1, []), (127, .iaload, 1, []), (128, (.iload 4), 2, []), (130, .iadd, 1, []), (131, .iastore, 1, []), (132, (.aload_n 0), 1, []), (133, (.getfield 7), 3, [9, 0, 4, 141]), (136, (.iload_n 2), 1, []), (137, (.iconst 5), 1, []), (138, .iadd, 1, []), (139, .dup2, 1, []), (140, .iaload, 1, []), (141, (.iconst 1), 1, []), (142, .iadd, 1, []), (143, .iastore, 1, []), (144, (.aload_n 0), 1, []), (145, (.getfield 7), 3, [9, 0, 4, 141]), (148, (.iload_n 1), 1, []), (149, (.iload_n 3), 1, []), (150, (.invokestatic 83), 3, [1, 4, 138, 4, 139, 1, 10, 4, 140]), (153, (.iconst 0), 1, []), (154, .iastore, 1, []), (155, (.aload_n 0), 1, []), (156, (.iload_n 1), 1, []), (157, (.invokevirtual 153), 3, [5, 119, 5, 121, 1, 10, 5, 122, 0, 43]), (160, (.istore_n 3), 1, []), (161, (.goto (-103)), 3, [58]), (164, (.aload_n 0), 1, []), (165, (.getfield 7), 3, [9, 0, 4, 141]), (168, (.iload_n 2), 1, []), (169, (.iconst 5), 1, []), (170, .iadd, 1, []), (171, .iaload, 1, []), (172, (.ifCond .le 9), 3, [181]), (175, (.aload_n 0), 1, []), (176, (.iload_n 1), 1, []), (177, (.iload_n 2), 1, []), (178, (.invokevirtual 162), 3, [5, 137, 5, 139, 1, 10, 5, 140, 0, 46]), (181, .return_, 1, [])]
def co_X10_launch : List Ent := [(0, (.aload_n 0), 1, []), (1, (.iload_n 1), 1, []), (2, (.bipush 7), 2, []), (4, (.iconst 1), 1, []), (5, (.invokevirtual 115), 3, [5, 73, 5, 75, 1, 10, 5, 76, 0, 33]), (8, (.aload_n 0), 1, []), (9, (.iload_n 1), 1, []), (10, (.bipush 65), 2, []), (12, (.iconst 1), 1, []), (13, (.invokevirtual 115), 3, [5, 73, 5, 75, 1, 10, 5, 76, 0, 33]), (16, (.aload_n 0), 1, []), (17, (.iload_n 1), 1, []), (18, (.bipush 8), 2, []), (20, (.iconst 1), 1, []), (21, (.invokevirtual 115), 3, [5, 73, 5, 75, 1, 10, 5, 76, 0, 33]), (24, (.aload_n 0), 1, []), (25, (.iload_n 1), 1, []), (26, (.bipush 9), 2, []), (28, (.aload_n 0), 1, []), (29, (.getfield 7), 3, [9, 0, 4, 141]), (32, (.iload_n 2), 1, []), (33, (.iconst 1), 1, []), (34, .iadd, 1, []), (35, .iaload, 1, []), (36, (.invokevirtual 115), 3, [5, 73, 5, 75, 1, 10, 5, 76, 0, 33]), (39, (.aload_n 0), 1, []), (40, (.iload_n 1), 1, []), (41, (.bipush 15), 2, []), (43, (.aload_n 0), 1, []), (44, (.getfield 7), 3, [9, 0, 4, 141]), (47, (.iload_n 2), 1, []), (48, (.iconst 5), 1, []), (49, .iadd, 1, []), (50, .iaload, 1, []), (51, (.invokevirtual 115), 3, [5, 73, 5, 75, 1, 10, 5, 76, 0, 33]), (54, (.aload_n 0), 1, []), (55, (.iload_n 1), 1, []), (56, (.iconst 5), 1, []), (57, (.invokevirtual 80), 3, [4, 239, 5, 1, 1, 10, 5, 2, 0, 21]), (60, (.ifCond .le 7), 3, [67]), (63, (.iconst 1), 1, []), (64, (.goto 4), 3, [68]), (67, (.iconst 0), 1, []), (68, (.istore_n 3), 1, []), (69, (.aload_n 0), 1, []), (70, (.iload_n 1), 1, []), (71, (.iconst 5), 1, []), (72, (.iload_n 3), 1, []), (73, (.ifCond .eq 7), 3, [80]), (76, (.iconst (-1)), 1, []), (77, (.goto 4), 3, [81]), (80, (.iconst 0), 1, []), (81, (.invokevirtual 115), 3, [5, 73, 5, 75, 1, 10, 5, 76, 0, 33]), (84, (.aload_n 0), 1, []), (85, (.iload_n 1), 1, []), (86, (.bipush 10), 2, []), (88, (.iload_n 3), 1, []), (89, (.ifCond .eq 7), 3, [96]), (92, (.iconst 1), 1, []), (93, (.goto 4), 3, [97]), (96, (.iconst 0), 1, []), (97, (.invokevirtual 115), 3, [5, 73, 5, 75, 1, 10, 5, 76, 0, 33]), (100, (.aload_n 0), 1, []), (101, (.getfield 7), 3, [9, 0, 4, 141]), (104, (.iload_n 2), 1, []), (105, (.iconst 0), 1, []), (106, .iadd, 1, []), (107, (.aload_n 0), 1, []), (108, (.iload_n 1), 1, []), (109, (.bipush 7), 2, []), (111, (.invokevirtual 80), 3, [4, 239, 5, 1, 1, 10, 5, 2, 0, 21]), (114, .iastore, 1, []), (115, (.aload_n 0), 1, []), (116, (.getfield 7), 3, [9, 0, 4, 141]), (119, (.iload_n 2), 1, []), (120, (.iconst 2), 1, []), (121, .iadd, 1, []), (122, (.aload_n 0), 1, []), (123, (.getfield 7), 3, [9, 0, 4, 141]), (126, (.iconst 0), 1, []), (127, .iaload, 1, []), (128, .iastore, 1, []), (129, (.aload_n 0), 1, []), (130, (.getfield 7), 3, [9, 0, 4, 141]), (133, (.iload_n 2), 1, []), (134, (.iconst 3), 1, []), (135, .iadd, 1, []), (136, (.iload_n 3), 1, []), (137, (.ifCond .eq 7), 3, [144]), (140, (.iconst 0), 1, []), (141, (.goto 16), 3, [157]), (144, (.aload_n 0), 1, []), (145, (.getfield 7), 3, [9, 0, 4, 141]), (148, (.iconst 0), 1, []), (149, .iaload, 1, []), (150, (.aload_n 0), 1, []), (151, (.getfield 7), 3, [9, 0, 4, 141]), (154, (.iconst 1), 1, []), (155, .iaload, 1, []), (156, .iadd, 1, []), (157, .iastore, 1, []), (158, (.aload_n 0), 1, []), (159, (.getfield 7), 3, [9, 0, 4, 141]), (162, (.iload_n 2), 1, []), (163, (.iconst 4), 1, []), (164, .iadd, 1, []), (165, (.iconst 1), 1, []), (166, .iastore, 1, []), (167, .return_, 1, [])]
def co_X10_serve : List Ent := [(0, (.aload_n 0), 1, []), (1, (.iload_n 1), 1, []), (2, (.invokevirtual 165), 3, [5, 100, 5, 102, 1, 10, 5, 103, 0, 39]), (5, (.iconst 0), 1, []), (6, (.istore_n 2), 1, []), (7, (.iload_n 2), 1, []), (8, (.bipush 16), 2, []), (10, (.if_icmp .ge 15), 3, [25]), (13, (.aload_n 0), 1, []), (14, (.iload_n 1), 1, []), (15, (.iload_n 2), 1, []), (16, (.invokevirtual 168), 3, [5, 104, 5, 106, 1, 10, 5, 107, 0, 40]), (19, (.iinc 2 1), 3, []), (22, (.goto (-15)), 3, [7]), (25, (.aload_n 0), 1, []), (26, (.getfield 7), 3, [9, 0, 4, 141]), (29, (.iconst 0), 1, []), (30, .iaload, 1, []), (31, (.aload_n 0), 1, []), (32, (.getfield 7), 3, [9, 0, 4, 141]), (35, (.iconst 2), 1, []), (36, .iaload, 1, []), (37, .irem, 1, []), (38, (.ifCond .ne 18), 3, [56]), (41, (.aload_n 0), 1, []), (42, (.iload_n 1), 1, []), (43, (.invokevirtual 171), 3, [5, 111, 5, 113, 1, 10, 5, 114, 0, 41]), (46, (.bipush 12), 2, []), (48, (.if_icmp .ge 8), 3, [56]), (51, (.aload_n 0), 1, []), (52, (.iload_n 1), 1, []), (53, (.invokevirtual 174), 3, [5, 115, 5, 117, 1, 10, 5, 118, 0, 42]), (56, .return_, 1, [])]
def co_X10_tickOne : List Ent := [(0, (.aload_n 0), 1, []), (1, (.getfield 7), 3, [9, 0, 4, 141]), (4, (.iconst 0), 1, []), (5, .dup2, 1, []), (6, .iaload, 1, []), (7, (.iconst 1), 1, []), (8, .iadd, 1, []), (9, .iastore, 1, []), (10, (.iconst 0), 1, []), (11, (.istore_n 1), 1, []), (12, (.iload_n 1), 1, []), (13, (.bipush 16), 2, []), (15, (.if_icmp .ge 29), 3, [44]), (18, (.aload_n 0), 1, []), (19, (.iload_n 1), 1, []), (20, (.invokevirtual 68), 3, [4, 191, 4, 193, 1, 10, 4, 194, 0, 17]), (23, (.ifCond .eq 15), 3, [38]), (26, (.aload_n 0), 1, []), (27, (.iload_n 1), 1, []), (28, (.iconst 0), 1, []), (29, (.invokevirtual 177), 3, [5, 42, 5, 44, 1, 10, 5, 45, 0, 26]), (32, (.aload_n 0), 1, []), (33, (.iload_n 1), 1, []), (34, (.iconst 1), 1, []), (35, (.invokevirtual 177), 3, [5, 42, 5, 44, 1, 10, 5, 45, 0, 26]), (38, (.iinc 1 1), 3, []), (41, (.goto (-29)), 3, [12]), (44, (.iconst 0), 1, []), (45, (.istore_n 1), 1, []), (46, (.iload_n 1), 1, []), (47, (.iconst 3), 1, []), (48, (.if_icmp .ge 14), 3, [62]), (51, (.aload_n 0), 1, []), (52, (.iload_n 1), 1, []), (53, (.invokevirtual 180), 3, [5, 46, 5, 48, 1, 10, 5, 49, 0, 27]), (56, (.iinc 1 1), 3, []), (59, (.goto (-13)), 3, [46]), (62, (.iconst 0), 1, []), (63, (.istore_n 1), 1, []), (64, (.iload_n 1), 1, []), (65, (.iconst 3), 1, []), (66, (.if_icmp .ge 22), 3, [88]), (69, (.aload_n 0), 1, []), (70, (.iload_n 1), 1, []), (71, (.invokevirtual 89), 3, [4, 235, 4, 237, 1, 10, 4, 238, 0, 20]), (74, (.ifCond .eq 8), 3, [82]), (77, (.aload_n 0), 1, []), (78, (.iload_n 1), 1, []), (79, (.invokevirtual 183), 3, [5, 96, 5, 98, 1, 10, 5, 99, 0, 38]), (82, (.iinc 1 1), 3, []), (85, (.goto (-21)), 3, [64]), (88, .return_, 1, [])]
def co_X10_tick : List Ent := [(0, (.aload_n 0), 1, []), (1, (.iload_n 1), 1, []), (2, (.iconst 1), 1, []), (3, (.bipush 50), 2, []), (5, (.invokestatic 49), 3, [1, 4, 178, 4, 179, 1, 10, 4, 180]), (8, (.ifCond .eq 7), 3, [15]), (11, (.iconst 0), 1, []), (12, (.goto 4), 3, [16]), (15, (.iconst 1), 1, []), (16, (.putfield 30), 3, [9, 5, 4, 146]), (19, (.aload_n 0), 1, []), (20, (.getfield 30), 3, [9, 5, 4, 146]), (23, (.ifCond .eq 5), 3, [28]), (26, (.iconst 0), 1, []), (27, .ireturn, 1, []), (28, (.aload_n 0), 1, []), (29, (.invokevirtual 65), 3, [4, 184, 4, 186, 1, 10, 4, 187, 0, 16]), (32, (.iconst 0), 1, []), (33, (.istore_n 2), 1, []), (34, (.iload_n 2), 1, []), (35, (.iload_n 1), 1, []), (36, (.if_icmp .ge 13), 3, [49]), (39, (.aload_n 0), 1, []), (40, (.invokevirtual 186), 3, [5, 38, 5, 40, 1, 10, 5, 41, 0, 25]), (43, (.iinc 2 1), 3, []), (46, (.goto (-12)), 3, [34]), (49, (.aload_n 0), 1, []), (50, (.getfield 7), 3, [9, 0, 4, 141]), (53, (.iconst 0), 1, []), (54, .iaload, 1, []), (55, .ireturn, 1, [])]
def co_X10_time : List Ent := [(0, (.aload_n 0), 1, []), (1, (.iconst 0), 1, []), (2, (.putfield 30), 3, [9, 5, 4, 146]), (5, (.aload_n 0), 1, []), (6, (.getfield 7), 3, [9, 0, 4, 141]), (9, (.iconst 0), 1, []), (10, .iaload, 1, []), (11, .ireturn, 1, [])]
def co_X10_copyValue : List Ent := [(0, (.aload_n 0), 1, []), (1, (.iload_n 1), 1, []), (2, (.iload_n 2), 1, []), (3, (.invokevirtual 189), 3, [5, 153, 5, 155, 1, 10, 5, 156, 0, 48]), (6, (.istore 4), 2, []), (8, (.iload_n 3), 1, []), (9, (.lookupswitch 65 #[(0, 35), (5, 47), (6, 54)]), 35, [74, 44, 56, 63]), (44, (.iload 4), 2, []), (46, (.iconst (-1)), 1, []), (47, (.if_icmp .ne 7), 3, [54]), (50, (.iconst 0), 1, []), (51, (.goto 4), 3, [55]), (54, (.iconst 1), 1, []), (55, .ireturn, 1, []), (56, (.aload_n 0), 1, []), (57, (.iload_n 1), 1, []), (58, (.iload_n 2), 1, []), (59, (.invokevirtual 108), 3, [5, 62, 5, 64, 1, 10, 5, 65, 0, 31]), (62, .ireturn, 1, []), (63, (.aload_n 0), 1, []), (64, (.getfield 7), 3, [9, 0, 4, 141]), (67, (.iload_n 1), 1, []), (68, (.iload_n 2), 1, []), (69, (.invokestatic 105), 3, [1, 5, 66, 5, 67, 1, 10, 5, 68]), (72, .iaload, 1, []), (73, .ireturn, 1, []), (74, (.iload 4), 2, []), (76, (.iload_n 3), 1, []), (77, (.iconst 1), 1, []), (78, .isub, 1, []), (79, (.invokestatic 71), 3, [1, 4, 225, 4, 226, 1, 10, 4, 227]), (82, .ireturn, 1, [])]
def co_X10_copy : List Ent := [(0, (.aload_n 0), 1, []), (1, (.iload_n 1), 1, []), (2, (.invokestatic 86), 3, [1, 4, 232, 4, 233, 1, 10, 4, 234]), (5, (.ifCond .eq 10), 3, [15]), (8, (.iload_n 2), 1, []), (9, (.invokestatic 57), 3, [1, 4, 175, 4, 176, 1, 10, 4, 177]), (12, (.ifCond .ne 7), 3, [19]), (15, (.iconst 1), 1, []), (16, (.goto 18), 3, [34]), (19, (.iload_n 3), 1, []), (20, (.iconst 0), 1, []), (21, (.bipush 6), 2, []), (23, (.invokestatic 49), 3, [1, 4, 178, 4, 179, 1, 10, 4, 180]), (26, (.ifCond .ne 7), 3, [33]), (29, (.iconst 2), 1, []), (30, (.goto 4), 3, [34]), (33, (.iconst 0), 1, []), (34, (.putfield 30), 3, [9, 5, 4, 146]), (37, (.aload_n 0), 1, []), (38, (.getfield 30), 3, [9, 5, 4, 146]), (41, (.ifCond .eq 7), 3, [48]), (44, (.iconst 0), 1, []), (45, (.goto 10), 3, [55]), (48, (.aload_n 0), 1, []), (49, (.iload_n 1), 1, []), (50, (.iload_n 2), 1, []), (51, (.iload_n 3), 1, []), (52, (.invokevirtual 192), 3, [5, 149, 5, 151, 1, 10, 5, 152, 0, 47]), (55, .ireturn, 1, [])]
def co_X10_keptValue : List Ent := [(0, (.iload_n 1), 1, []), (1, (.iload_n 2), 1, []), (2, (.invokestatic 83), 3, [1, 4, 138, 4, 139, 1, 10, 4, 140]), (5, (.istore 4), 2, []), (7, (.iload_n 3), 1, []), (8, (.tableswitch 115 0 8 #[52, 52, 62, 115, 115, 115, 115, 81, 96]), 52, [123, 60, 60, 70, 123, 123, 123, 123, 89, 104]), (60, (.aload_n 0), 1, []), (61, (.getfield 7), 3, [9, 0, 4, 141]), (64, (.iload 4), 2, []), (66, (.iload_n 3), 1, []), (67, .iadd, 1, []), (68, .iaload, 1, []), (69, .ireturn, 1, []), (70, (.aload_n 0), 1, []), (71, (.getfield 7), 3, [9, 0, 4, 141]), (74, (.iload 4), 2, []), (76, (.iconst 2), 1, []), (77, .iadd, 1, []), (78, .iaload, 1, []), (79, (.iconst (-1)), 1, []), (80, (.if_icmp .ne 7), 3, [87]), (83, (.iconst 0), 1, []), (84, (.goto 4), 3, [88]), (87, (.iconst 1), 1, []), (88, .ireturn, 1, []), (89, (.aload_n 0), 1, []), (90, (.iload_n 1), 1, []), (91, (.iload_n 2), 1, []), (92, (.invokevirtual 102), 3, [5, 11, 5, 13, 1, 10, 5, 14, 0, 23]), (95, (.ifCond .eq 7), 3, [102]), (98, (.iconst 1), 1, []), (99, (.goto 4), 3, [103]), (102, (.iconst 0), 1, []), (103, .ireturn, 1, []), (104, (.aload_n 0), 1, []), (105, (.iload_n 2), 1, []), (106, (.invokevirtual 68), 3, [4, 191, 4, 193, 1, 10, 4, 194, 0, 17]), (109, (.ifCond .eq 12), 3, [121]), (112, (.aload_n 0), 1, []), (113, (.iload_n 1), 1, []), (114, (.iload_n 2), 1, []), (115, (.invokevirtual 99), 3, [5, 15, 5, 17, 1, 10, 5, 18, 0, 24]), (118, (.goto 4), 3, [122]), (121, (.iconst (-1)), 1, []), (122, .ireturn, 1, []), (123, (.aload_n 0), 1, []), (124, (.getfield 7), 3, [9, 0, 4, 141]), (127, (.iload 4), 2, []), (129, (.iconst 2), 1, []), (130, .iadd, 1, []), (131, .iaload, 1, []), (132, (.iload_n 3), 1, []), (133, (.iconst 3), 1, []), (134, .isub, 1, []), (135, (.invokestatic 71), 3, [1, 4, 225, 4, 226, 1, 10, 4, 227]), (138, .ireturn, 1, [])]
def co_X10_kept : List Ent := [(0, (.aload_n 0), 1, []), (1, (.iload_n 1), 1, []), (2, (.invokestatic 86), 3, [1, 4, 232, 4, 233, 1, 10, 4, 234]), (5, (.ifCond .eq 10), 3, [15]), (8, (.iload_n 2), 1, []), (9, (.invokestatic 57), 3, [1, 4, 175, 4, 176, 1, 10, 4, 177]), (12, (.ifCond .ne 7), 3, [19]), (15, (.iconst 1), 1, []), (16, (.goto 30), 3, [46]), (19, (.iload_n 3), 1, []), (20, (.iconst 0), 1, []), (21, (.bipush 8), 2, []), (23, (.invokestatic 49), 3, [1, 4, 178, 4, 179, 1, 10, 4, 180]), (26, (.ifCond .ne 7), 3, [33]), (29, (.iconst 2), 1, []), (30, (.goto 16), 3, [46]), (33, (.aload_n 0), 1, []), (34, (.iload_n 1), 1, []), (35, (.invokevirtual 89), 3, [4, 235, 4, 237, 1, 10, 4, 238, 0, 20]), (38, (.ifCond .eq 7), 3, [45]), (41, (.iconst 0), 1, []), (42, (.goto 4), 3, [46]), (45, (.iconst 3), 1, []), (46, (.putfield 30), 3, [9, 5, 4, 146]), (49, (.aload_n 0), 1, []), (50, (.getfield 30), 3, [9, 5, 4, 146]), (53, (.ifCond .eq 7), 3, [60]), (56, (.iconst 0), 1, []), (57, (.goto 10), 3, [67]), (60, (.aload_n 0), 1, []), (61, (.iload_n 1), 1, []), (62, (.iload_n 2), 1, []), (63, (.iload_n 3), 1, []), (64, (.invokevirtual 195), 3, [5, 161, 5, 163, 1, 10, 5, 164, 0, 49]), (67, .ireturn, 1, [])]
def co_X10_countOf : List Ent := [(0, (.iload_n 2), 1, []), (1, (.bipush 6), 2, []), (3, (.if_icmp .ne 11), 3, [14]), (6, (.aload_n 0), 1, []), (7, (.iload_n 1), 1, []), (8, (.invokevirtual 171), 3, [5, 111, 5, 113, 1, 10, 5, 114, 0, 41]), (11, (.goto 27), 3, [38]), (14, (.aload_n 0), 1, []), (15, (.iload_n 1), 1, []), (16, (.iload_n 2), 1, []), (17, (.bipush 6), 2, []), (19, (.if_icmp .ge 10), 3, [29]), (22, (.bipush 8), 2, []), (24, (.iload_n 2), 1, []), (25, .iadd, 1, []), (26, (.goto 9), 3, [35]), (29, (.bipush 8), 2, []), (31, (.iload_n 2), 1, []), (32, .iadd, 1, []), (33, (.iconst 1), 1, []), (34, .isub, 1, []), (35, (.invokevirtual 80), 3, [4, 239, 5, 1, 1, 10, 5, 2, 0, 21]), (38, .ireturn, 1, [])]
def co_X10_count : List Ent := [(0, (.aload_n 0), 1, []), (1, (.iload_n 1), 1, []), (2, (.invokestatic 86), 3, [1, 4, 232, 4, 233, 1, 10, 4, 234]), (5, (.ifCond .ne 7), 3, [12]), (8, (.iconst 1), 1, []), (9, (.goto 18), 3, [27]), (12, (.iload_n 2), 1, []), (13, (.iconst 0), 1, []), (14, (.bipush 8), 2, []), (16, (.invokestatic 49), 3, [1, 4, 178, 4, 179, 1, 10, 4, 180]), (19, (.ifCond .ne 7), 3, [26]), (22, (.iconst 2), 1, []), (23, (.goto 4), 3, [27]), (26, (.iconst 0), 1, []), (27, (.putfield 30), 3, [9, 5, 4, 146]), (30, (.aload_n 0), 1, []), (31, (.getfield 30), 3, [9, 5, 4, 146]), (34, (.ifCond .eq 7), 3, [41]), (37, (.iconst 0), 1, []), (38, (.goto 9), 3, [47]), (41, (.aload_n 0), 1, []), (42, (.iload_n 1), 1, []), (43, (.iload_n 2), 1, []), (44, (.invokevirtual 198), 3, [5, 169, 5, 171, 1, 10, 5, 172, 0, 50]), (47, .ireturn, 1, [])]
def co_X10_staleOf : List Ent := [(0, (.iconst 0), 1, []), (1, (.istore_n 2), 1, []), (2, (.iconst 0), 1, []), (3, (.istore_n 3), 1, []), (4, (.iload_n 3), 1, []), (5, (.bipush 16), 2, []), (7, (.if_icmp .ge 58), 3, [65]), (10, (.aload_n 0), 1, []), (11, (.iload_n 1), 1, []), (12, (.iload_n 3), 1, []), (13, (.invokevirtual 189), 3, [5, 153, 5, 155, 1, 10, 5, 156, 0, 48]), (16, (.istore 4), 2, []), (18, (.iload_n 2), 1, []), (19, (.aload_n 0), 1, []), (20, (.iload_n 1), 1, []), (21, (.iload_n 3), 1, []), (22, (.invokevirtual 102), 3, [5, 11, 5, 13, 1, 10, 5, 14, 0, 23]), (25, (.ifCond .eq 21), 3, [46]), (28, (.iload 4), 2, []), (30, (.aload_n 0), 1, []), (31, (.iload_n 3), 1, []), (32, (.invokevirtual 53), 3, [4, 195, 4, 197, 1, 10, 4, 198, 0, 18]), (35, (.if_icmp .ne 7), 3, [42]), (38, (.iconst 0), 1, []), (39, (.goto 18), 3, [57]), (42, (.iconst 1), 1, []), (43, (.goto 14), 3, [57]), (46, (.iload 4), 2, []), (48, (.iconst (-1)), 1, []), (49, (.if_icmp .ne 7), 3, [56]), (52, (.iconst 0), 1, []), (53, (.goto 4), 3, [57]), (56, (.iconst 1), 1, []), (57, .iadd, 1, []), (58, (.istore_n 2), 1, []), (59, (.iinc 3 1), 3, []), (62, (.goto (-58)), 3, [4]), (65, (.iload_n 2), 1, []), (66, .ireturn, 1, [])]
def co_X10_stale : List Ent := [(0, (.aload_n 0), 1, []), (1, (.iload_n 1), 1, []), (2, (.invokestatic 86), 3, [1, 4, 232, 4, 233, 1, 10, 4, 234]), (5, (.ifCond .ne 7), 3, [12]), (8, (.iconst 1), 1, []), (9, (.goto 16), 3, [25]), (12, (.aload_n 0), 1, []), (13, (.iload_n 1), 1, []), (14, (.invokevirtual 89), 3, [4, 235, 4, 237, 1, 10, 4, 238, 0, 20]), (17, (.ifCond .eq 7), 3, [24]), (20, (.iconst 0), 1, []), (21, (.goto 4), 3, [25]), (24, (.iconst 2), 1, []), (25, (.putfield 30), 3, [9, 5, 4, 146]), (28, (.aload_n 0), 1, []), (29, (.getfield 30), 3, [9, 5, 4, 146]), (32, (.ifCond .eq 7), 3, [39]), (35, (.iconst 0), 1, []), (36, (.goto 8), 3, [44]), (39, (.aload_n 0), 1, []), (40, (.iload_n 1), 1, []), (41, (.invokevirtual 201), 3, [5, 177, 5, 179, 1, 10, 5, 180, 0, 51]), (44, .ireturn, 1, [])]
def co_X10_flyingCell : List Ent := [(0, (.iload_n 2), 1, []), (1, (.istore_n 3), 1, []), (2, (.iconst 0), 1, []), (3, (.istore 4), 2, []), (5, (.iload 4), 2, []), (7, (.aload_n 0), 1, []), (8, (.iload_n 1), 1, []), (9, (.bipush 65), 2, []), (11, (.invokevirtual 80), 3, [4, 239, 5, 1, 1, 10, 5, 2, 0, 21]), (14, (.if_icmp .ge 41), 3, [55]), (17, (.aload_n 0), 1, []), (18, (.iload_n 1), 1, []), (19, (.iload 4), 2, []), (21, (.invokevirtual 125), 3, [5, 50, 5, 52, 1, 10, 5, 53, 0, 28]), (24, (.istore 5), 2, []), (26, (.aload_n 0), 1, []), (27, (.getfield 7), 3, [9, 0, 4, 141]), (30, (.iload 5), 2, []), (32, (.iconst 4), 1, []), (33, .iadd, 1, []), (34, .iaload, 1, []), (35, (.iconst 1), 1, []), (36, (.if_icmp .ne 13), 3, [49]), (39, (.iload_n 3), 1, []), (40, (.ifCond .ne 6), 3, [46]), (43, (.iload 5), 2, []), (45, .ireturn, 1, []), (46, (.iinc 3 (-1)), 3, []), (49, (.iinc 4 1), 3, []), (52, (.goto (-47)), 3, [5]), (55, (.iconst (-1)), 1, []), (56, .ireturn, 1, [])]
def co_X10_packetValue : List Ent := [(0, (.iload_n 2), 1, []), (1, (.ifCond .ne 14), 3, [15]), (4, (.aload_n 0), 1, []), (5, (.getfield 7), 3, [9, 0, 4, 141]), (8, (.iload_n 1), 1, []), (9, (.iconst 0), 1, []), (10, .iadd, 1, []), (11, .iaload, 1, []), (12, (.goto 50), 3, [62]), (15, (.iload_n 2), 1, []), (16, (.iconst 1), 1, []), (17, (.if_icmp .ne 14), 3, [31]), (20, (.aload_n 0), 1, []), (21, (.getfield 7), 3, [9, 0, 4, 141]), (24, (.iload_n 1), 1, []), (25, (.iconst 1), 1, []), (26, .iadd, 1, []), (27, .iaload, 1, []), (28, (.goto 34), 3, [62]), (31, (.iload_n 2), 1, []), (32, (.iconst 2), 1, []), (33, (.if_icmp .ne 14), 3, [47]), (36, (.aload_n 0), 1, []), (37, (.getfield 7), 3, [9, 0, 4, 141]), (40, (.iload_n 1), 1, []), (41, (.iconst 5), 1, []), (42, .iadd, 1, []), (43, .iaload, 1, []), (44, (.goto 18), 3, [62]), (47, (.aload_n 0), 1, []), (48, (.getfield 7), 3, [9, 0, 4, 141]), (51, (.iconst 0), 1, []), (52, .iaload, 1, []), (53, (.aload_n 0), 1, []), (54, (.getfield 7), 3, [9, 0, 4, 141]), (57, (.iload_n 1), 1, []), (58, (.iconst 2), 1, []), (59, .iadd, 1, []), (60, .iaload, 1, []), (61, .isub, 1, []), (62, .ireturn, 1, [])]
def co_X10_packet : List Ent := [(0, (.aload_n 0), 1, []), (1, (.iconst 0), 1, []), (2, (.putfield 30), 3, [9, 5, 4, 146]), (5, (.iload_n 1), 1, []), (6, (.invokestatic 86), 3, [1, 4, 232, 4, 233, 1, 10, 4, 234]), (9, (.ifCond .ne 9), 3, [18]), (12, (.aload_n 0), 1, []), (13, (.iconst 1), 1, []), (14, (.invokevirtual 204), 3, [5, 185, 5, 187, 1, 10, 5, 188, 0, 52]), (17, .ireturn, 1, []), (18, (.aload_n 0), 1, []), (19, (.iload_n 1), 1, []), (20, (.iload_n 2), 1, []), (21, (.invokevirtual 207), 3, [5, 189, 5, 191, 1, 10, 5, 192, 0, 53]), (24, (.istore 4), 2, []), (26, (.iload 4), 2, []), (28, (.iconst (-1)), 1, []), (29, (.if_icmp .eq 12), 3, [41]), (32, (.iload_n 3), 1, []), (33, (.iconst 0), 1, []), (34, (.iconst 3), 1, []), (35, (.invokestatic 49), 3, [1, 4, 178, 4, 179, 1, 10, 4, 180]), (38, (.ifCond .ne 11), 3, [49]), (41, (.aload_n 0), 1, []), (42, (.iconst 2), 1, []), (43, (.invokevirtual 204), 3, [5, 185, 5, 187, 1, 10, 5, 188, 0, 52]), (46, (.goto 10), 3, [56]), (49, (.aload_n 0), 1, []), (50, (.iload 4), 2, []), (52, (.iload_n 3), 1, []), (53, (.invokevirtual 210), 3, [5, 193, 5, 195, 1, 10, 5, 196, 0, 54]), (56, .ireturn, 1, [])]
def co_X10_entryValue : List Ent := [(0, (.iload_n 1), 1, []), (1, (.bipush 6), 2, []), (3, .iadd, 1, []), (4, (.iconst 5), 1, []), (5, (.iload_n 2), 1, []), (6, .imul, 1, []), (7, .iadd, 1, []), (8, (.istore 4), 2, []), (10, (.iload_n 3), 1, []), (11, (.tableswitch 90 2 4 #[25, 70, 80]), 25, [101, 36, 81, 91]), (36, (.aload_n 0), 1, []), (37, (.getfield 7), 3, [9, 0, 4, 141]), (40, (.iload 4), 2, []), (42, .iaload, 1, []), (43, (.ifCond .ne 7), 3, [50]), (46, (.iconst 2), 1, []), (47, (.goto 33), 3, [80]), (50, (.aload_n 0), 1, []), (51, (.getfield 7), 3, [9, 0, 4, 141]), (54, (.iload 4), 2, []), (56, .iaload, 1, []), (57, (.iconst 1), 1, []), (58, (.if_icmp .ne 8), 3, [66]), (61, (.bipush 6), 2, []), (63, (.goto 17), 3, [80]), (66, (.iconst 2), 1, []), (67, (.aload_n 0), 1, []), (68, (.getfield 7), 3, [9, 0, 4, 141]), (71, (.iload 4), 2, []), (73, (.iconst 3), 1, []), (74, .iadd, 1, []), (75, .iaload, 1, []), (76, (.invokestatic 150), 3, [1, 5, 130, 5, 131, 1, 10, 5, 132]), (79, .iadd, 1, []), (80, .ireturn, 1, []), (81, (.aload_n 0), 1, []), (82, (.getfield 7), 3, [9, 0, 4, 141]), (85, (.iload 4), 2, []), (87, (.iconst 2), 1, []), (88, .iadd, 1, []), (89, .iaload, 1, []), (90, .ireturn, 1, []), (91, (.aload_n 0), 1, []), (92, (.getfield 7), 3, [9, 0, 4, 141]), (95, (.iload 4), 2, []), (97, (.iconst 3), 1, []), (98, .iadd, 1, []), (99, .iaload, 1, []), (100, .ireturn, 1, []), (101, (.aload_n 0), 1, []), (102, (.getfield 7), 3, [9, 0, 4, 141]), (105, (.iload 4), 2, []), (107, (.iload_n 3), 1, []), (108, .iadd, 1, []), (109, .iaload, 1, []), (110, .ireturn, 1, [])]
def co_X10_entry : List Ent := [(0, (.aload_n 0), 1, []), (1, (.iconst 0), 1, []), (2, (.putfield 30), 3, [9, 5, 4, 146]), (5, (.iload_n 1), 1, []), (6, (.invokestatic 86), 3, [1, 4, 232, 4, 233, 1, 10, 4, 234]), (9, (.ifCond .ne 9), 3, [18]), (12, (.aload_n 0), 1, []), (13, (.iconst 1), 1, []), (14, (.invokevirtual 204), 3, [5, 185, 5, 187, 1, 10, 5, 188, 0, 52]), (17, .ireturn, 1, []), (18, (.aload_n 0), 1, []), (19, (.iload_n 1), 1, []), (20, (.iload_n 2), 1, []), (21, (.invokevirtual 207), 3, [5, 189, 5, 191, 1, 10, 5, 192, 0, 53]), (24, (.istore 5), 2, []), (26, (.iload 5), 2, []), (28, (.iconst (-1)), 1, []), (29, (.if_icmp .eq 46), 3, [75]), (32, (.iload_n 3), 1, []), (33, (.iconst 0), 1, []), (34, (.aload_n 0), 1, []), (35, (.getfield 7), 3, [9, 0, 4, 141]), (38, (.iload 5), 2, []), (40, (.iconst (-1)), 1, []), (41, (.if_icmp .ne 7), 3, [48]), (44, (.iconst 0), 1, []), (45, (.goto 7), 3, [52]), (48, (.iload 5), 2, []), (50, (.iconst 5), 1, []), (51, .iadd, 1, []), (52, .iaload, 1, []), (53, (.iconst 1), 1, []), (54, .isub, 1, []), (55, (.invokestatic 49), 3, [1, 4, 178, 4, 179, 1, 10, 4, 180]), (58, (.ifCond .eq 17), 3, [75]), (61, (.iload 4), 2, []), (63, (.iconst 0), 1, []), (64, (.iconst 4), 1, []), (65, (.invokestatic 49), 3, [1, 4, 178, 4, 179, 1, 10, 4, 180]), (68, (.ifCond .eq 7), 3, [75]), (71, (.iconst 1), 1, []), (72, (.goto 4), 3, [76]), (75, (.iconst 0), 1, []), (76, (.istore 6), 2, []), (78, (.iload 6), 2, []), (80, (.ifCond .eq 15), 3, [95]), (83, (.aload_n 0), 1, []), (84, (.iload 5), 2, []), (86, (.iload_n 3), 1, []), (87, (.iload 4), 2, []), (89, (.invokevirtual 213), 3, [5, 201, 5, 203, 1, 10, 5, 204, 0, 55]), (92, (.goto 8), 3, [100]), (95, (.aload_n 0), 1, []), (96, (.iconst 2), 1, []), (97, (.invokevirtual 204), 3, [5, 185, 5, 187, 1, 10, 5, 188, 0, 52]), (100, .ireturn, 1, [])]
def co_X10_price : List Ent := [(0, (.aload_n 0), 1, []), (1, (.iload_n 1), 1, []), (2, (.invokestatic 86), 3, [1, 4, 232, 4, 233, 1, 10, 4, 234]), (5, (.ifCond .eq 10), 3, [15]), (8, (.iload_n 2), 1, []), (9, (.invokestatic 57), 3, [1, 4, 175, 4, 176, 1, 10, 4, 177]), (12, (.ifCond .ne 7), 3, [19]), (15, (.iconst 1), 1, []), (16, (.goto 16), 3, [32]), (19, (.aload_n 0), 1, []), (20, (.iload_n 1), 1, []), (21, (.invokevirtual 89), 3, [4, 235, 4, 237, 1, 10, 4, 238, 0, 20]), (24, (.ifCond .eq 7), 3, [31]), (27, (.iconst 0), 1, []), (28, (.goto 4), 3, [32]), (31, (.iconst 2), 1, []), (32, (.putfield 30), 3, [9, 5, 4, 146]), (35, (.aload_n 0), 1, []), (36, (.getfield 30), 3, [9, 5, 4, 146]), (39, (.ifCond .eq 7), 3, [46]), (42, (.iconst 0), 1, []), (43, (.goto 9), 3, [52]), (46, (.aload_n 0), 1, []), (47, (.iload_n 1), 1, []), (48, (.iload_n 2), 1, []), (49, (.invokevirtual 156), 3, [5, 123, 5, 125, 1, 10, 5, 126, 0, 44]), (52, .ireturn, 1, [])]
def co_X10_undo : List Ent := [(0, (.aload_n 0), 1, []), (1, (.aload_n 0), 1, []), (2, (.getfield 38), 3, [9, 4, 4, 145]), (5, (.ifCond .ne 7), 3, [12]), (8, (.iconst 1), 1, []), (9, (.goto 4), 3, [13]), (12, (.iconst 0), 1, []), (13, (.putfield 30), 3, [9, 5, 4, 146]), (16, (.aload_n 0), 1, []), (17, (.getfield 30), 3, [9, 5, 4, 146]), (20, (.ifCond .eq 5), 3, [25]), (23, (.iconst 0), 1, []), (24, .ireturn, 1, []), (25, (.aload_n 0), 1, []), (26, (.getfield 13), 3, [9, 1, 4, 142]), (29, (.aload_n 0), 1, []), (30, (.getfield 7), 3, [9, 0, 4, 141]), (33, (.invokestatic 34), 3, [1, 4, 188, 4, 189, 1, 10, 4, 190]), (36, (.aload_n 0), 1, []), (37, (.getfield 16), 3, [9, 2, 4, 143]), (40, (.aload_n 0), 1, []), (41, (.getfield 13), 3, [9, 1, 4, 142]), (44, (.invokestatic 34), 3, [1, 4, 188, 4, 189, 1, 10, 4, 190]), (47, (.aload_n 0), 1, []), (48, (.getfield 19), 3, [9, 3, 4, 144]), (51, (.aload_n 0), 1, []), (52, (.getfield 16), 3, [9, 2, 4, 143]), (55, (.invokestatic 34), 3, [1, 4, 188, 4, 189, 1, 10, 4, 190]), (58, (.aload_n 0), 1, []), (59, .dup, 1, []), (60, (.getfield 38), 3, [9, 4, 4, 145]), (63, (.iconst 1), 1, []), (64, .isub, 1, []), (65, (.putfield 38), 3, [9, 4, 4, 145]), (68, (.aload_n 0), 1, []), (69, (.getfield 38), 3, [9, 4, 4, 145]), (72, .ireturn, 1, [])]
def co_X10_mix : List Ent := [(0, (.aload_n 0), 1, []), (1, (.ldc2_w 216), 3, [5, 222, 31]), (4, (.aload_n 0), 1, []), (5, (.getfield 218), 3, [9, 7, 4, 148]), (8, .lmul, 1, []), (9, (.lload_n 1), 1, []), (10, .ladd, 1, []), (11, (.putfield 218), 3, [9, 7, 4, 148]), (14, .return_, 1, [])]
def co_X10_mixClient : List Ent := [(0, (.aload_n 0), 1, []), (1, (.iload_n 1), 1, []), (2, (.invokevirtual 89), 3, [4, 235, 4, 237, 1, 10, 4, 238, 0, 20]), (5, (.istore_n 2), 1, []), (6, (.aload_n 0), 1, []), (7, (.iload_n 2), 1, []), (8, (.ifCond .eq 7), 3, [15]), (11, (.lconst 1), 1, []), (12, (.goto 4), 3, [16]), (15, (.lconst 0), 1, []), (16, (.invokevirtual 222), 3, [5, 218, 5, 220, 1, 10, 5, 221, 0, 56]), (19, (.iconst 0), 1, []), (20, (.istore_n 3), 1, []), (21, (.iload_n 3), 1, []), (22, (.bipush 9), 2, []), (24, (.if_icmp .ge 20), 3, [44]), (27, (.aload_n 0), 1, []), (28, (.aload_n 0), 1, []), (29, (.iload_n 1), 1, []), (30, (.iload_n 3), 1, []), (31, (.invokevirtual 198), 3, [5, 169, 5, 171, 1, 10, 5, 172, 0, 50]), (34, .i2l, 1, []), (35, (.invokevirtual 222), 3, [5, 218, 5, 220, 1, 10, 5, 221, 0, 56]), (38, (.iinc 3 1), 3, []), (41, (.goto (-20)), 3, [21]), (44, (.iconst 1), 1, []), (45, (.istore_n 3), 1, []), (46, (.iload_n 3), 1, []), (47, (.bipush 6), 2, []), (49, (.if_icmp .gt 24), 3, [73]), (52, (.iload_n 2), 1, []), (53, (.ifCond .eq 20), 3, [73]), (56, (.aload_n 0), 1, []), (57, (.aload_n 0), 1, []), (58, (.iload_n 1), 1, []), (59, (.iload_n 3), 1, []), (60, (.invokevirtual 80), 3, [4, 239, 5, 1, 1, 10, 5, 2, 0, 21]), (63, .i2l, 1, []), (64, (.invokevirtual 222), 3, [5, 218, 5, 220, 1, 10, 5, 221, 0, 56]), (67, (.iinc 3 1), 3, []), (70, (.goto (-24)), 3, [46]), (73, (.iload_n 2), 1, []), (74, (.ifCond .eq 13), 3, [87]), (77, (.aload_n 0), 1, []), (78, (.aload_n 0), 1, []), (79, (.iload_n 1), 1, []), (80, (.invokevirtual 201), 3, [5, 177, 5, 179, 1, 10, 5, 180, 0, 51]), (83, .i2l, 1, []), (84, (.invokevirtual 222), 3, [5, 218, 5, 220, 1, 10, 5, 221, 0, 56]), (87, (.iconst 0), 1, []), (88, (.istore_n 3), 1, []), (89, (.iload_n 3), 1, []), (90, (.bipush 16), 2, []), (92, (.if_icmp .ge 16), 3, [108]), (95, (.aload_n 0), 1, []), (96, (.iload_n 1), 1, []), (97, (.iload_n 3), 1, []), (98, (.iload_n 2), 1, []), (99, (.invokevirtual 226), 3, [5, 227, 5, 229, 1, 10, 5, 230, 0, 58]), (102, (.iinc 3 1), 3, []), (105, (.goto (-16)), 3, [89]), (108, (.iconst 0), 1, []), (109, (.istore_n 3), 1, []), (110, (.iload_n 3), 1, []), (111, (.aload_n 0), 1, []), (112, (.iload_n 1), 1, []), (113, (.invokevirtual 171), 3, [5, 111, 5, 113, 1, 10, 5, 114, 0, 41]), (116, (.if_icmp .ge 19), 3, [135]), (119, (.aload_n 0), 1, []), (120, (.aload_n 0), 1, []), (121, (.iload_n 1), 1, []), (122, (.iload_n 3), 1, []), (123, (.invokevirtual 207), 3, [5, 189, 5, 191, 1, 10, 5, 192, 0, 53]), (126, (.invokevirtual 230), 3, [5, 231, 5, 233, 1, 10, 5, 234, 0, 59]), (129, (.iinc 3 1), 3, []), (132, (.goto (-22)), 3, [110]), (135, .return_, 1, [])]
def co_X10_mixEntity : List Ent := [(0, (.iconst 0), 1, []), (1, (.istore 4), 2, []), (3, (.iload 4), 2, []), (5, (.bipush 7), 2, []), (7, (.if_icmp .ge 22), 3, [29]), (10, (.aload_n 0), 1, []), (11, (.aload_n 0), 1, []), (12, (.iload_n 1), 1, []), (13, (.iload_n 2), 1, []), (14, (.iload 4), 2, []), (16, (.invokevirtual 192), 3, [5, 149, 5, 151, 1, 10, 5, 152, 0, 47]), (19, .i2l, 1, []), (20, (.invokevirtual 222), 3, [5, 218, 5, 220, 1, 10, 5, 221, 0, 56]), (23, (.iinc 4 1), 3, []), (26, (.goto (-23)), 3, [3]), (29, (.iconst 0), 1, []), (30, (.istore 4), 2, []), (32, (.iload 4), 2, []), (34, (.bipush 9), 2, []), (36, (.if_icmp .ge 26), 3, [62]), (39, (.iload_n 3), 1, []), (40, (.ifCond .eq 22), 3, [62]), (43, (.aload_n 0), 1, []), (44, (.aload_n 0), 1, []), (45, (.iload_n 1), 1, []), (46, (.iload_n 2), 1, []), (47, (.iload 4), 2, []), (49, (.invokevirtual 195), 3, [5, 161, 5, 163, 1, 10, 5, 164, 0, 49]), (52, .i2l, 1, []), (53, (.invokevirtual 222), 3, [5, 218, 5, 220, 1, 10, 5, 221, 0, 56]), (56, (.iinc 4 1), 3, []), (59, (.goto (-27)), 3, [32]), (62, (.iload_n 3), 1, []), (63, (.ifCond .eq 14), 3, [77]), (66, (.aload_n 0), 1, []), (67, (.aload_n 0), 1, []), (68, (.iload_n 1), 1, []), (69, (.iload_n 2), 1, []), (70, (.invokevirtual 156), 3, [5, 123, 5, 125, 1, 10, 5, 126, 0, 44]), (73, .i2l, 1, []), (74, (.invokevirtual 222), 3, [5, 218, 5, 220, 1, 10, 5, 221, 0, 56]), (77, .return_, 1, [])]
def co_X10_mixPacket : List Ent := [(0, (.iconst 0), 1, []), (1, (.istore_n 2), 1, []), (2, (.iload_n 2), 1, []), (3, (.iconst 4), 1, []), (4, (.if_icmp .ge 20), 3, [24]), (7, (.aload_n 0), 1, []), (8, (.aload_n 0), 1, []), (9, (.iload_n 1), 1, []), (10, (.iload_n 2), 1, []), (11, (.invokevirtual 210), 3, [5, 193, 5, 195, 1, 10, 5, 196, 0, 54]), (14, .i2l, 1, []), (15, (.invokevirtual 222), 3, [5, 218, 5, 220, 1, 10, 5, 221, 0, 56]), (18, (.iinc 2 1), 3, []), (21, (.goto (-19)), 3, [2]), (24, (.iconst 0), 1, []), (25, (.istore_n 2), 1, []), (26, (.iload_n 2), 1, []), (27, (.aload_n 0), 1, []), (28, (.getfield 7), 3, [9, 0, 4, 141]), (31, (.iload_n 1), 1, []), (32, (.iconst 5), 1, []), (33, .iadd, 1, []), (34, .iaload, 1, []), (35, (.if_icmp .ge 34), 3, [69]), (38, (.iconst 0), 1, []), (39, (.istore_n 3), 1, []), (40, (.iload_n 3), 1, []), (41, (.iconst 5), 1, []), (42, (.if_icmp .ge 21), 3, [63]), (45, (.aload_n 0), 1, []), (46, (.aload_n 0), 1, []), (47, (.iload_n 1), 1, []), (48, (.iload_n 2), 1, []), (49, (.iload_n 3), 1, []), (50, (.invokevirtual 213), 3, [5, 201, 5, 203, 1, 10, 5, 204, 0, 55]), (53, .i2l, 1, []), (54, (.invokevirtual 222), 3, [5, 218, 5, 220, 1, 10, 5, 221, 0, 56]), (57, (.iinc 3 1), 3, []), (60, (.goto (-20)), 3, [40]), (63, (.iinc 2 1), 3, []), (66, (.goto (-40)), 3, [26]), (69, .return_, 1, [])]
def co_X10_digest : List Ent := [(0, (.aload_n 0), 1, []), (1, (.iconst 0), 1, []), (2, (.putfield 30), 3, [9, 5, 4, 146]), (5, (.aload_n 0), 1, []), (6, (.ldc2_w 233), 3, [5, 217, 18582]), (9, (.putfield 218), 3, [9, 7, 4, 148]), (12, (.aload_n 0), 1, []), (13, (.aload_n 0), 1, []), (14, (.getfield 38), 3, [9, 4, 4, 145]), (17, .i2l, 1, []), (18, (.invokevirtual 222), 3, [5, 218, 5, 220, 1, 10, 5, 221, 0, 56]), (21, (.aload_n 0), 1, []), (22, (.aload_n 0), 1, []), (23, (.getfield 7), 3, [9, 0, 4, 141]), (26, (.iconst 0), 1, []), (27, .iaload, 1, []), (28, .i2l, 1, []), (29, (.invokevirtual 222), 3, [5, 218, 5, 220, 1, 10, 5, 221, 0, 56]), (32, (.aload_n 0), 1, []), (33, (.aload_n 0), 1, []), (34, (.getfield 7), 3, [9, 0, 4, 141]), (37, (.iconst 1), 1, []), (38, .iaload, 1, []), (39, .i2l, 1, []), (40, (.invokevirtual 222), 3, [5, 218, 5, 220, 1, 10, 5, 221, 0, 56]), (43, (.aload_n 0), 1, []), (44, (.aload_n 0), 1, []), (45, (.getfield 7), 3, [9, 0, 4, 141]), (48, (.iconst 2), 1, []), (49, .iaload, 1, []), (50, .i2l, 1, []), (51, (.invokevirtual 222), 3, [5, 218, 5, 220, 1, 10, 5, 221, 0, 56]), (54, (.iconst 0), 1, []), (55, (.istore_n 1), 1, []), (56, (.iload_n 1), 1, []), (57, (.bipush 16), 2, []), (59, (.if_icmp .ge 34), 3, [93]), (62, (.iconst 0), 1, []), (63, (.istore_n 2), 1, []), (64, (.iload_n 2), 1, []), (65, (.bipush 7), 2, []), (67, (.if_icmp .ge 20), 3, [87]), (70, (.aload_n 0), 1, []), (71, (.aload_n 0), 1, []), (72, (.iload_n 1), 1, []), (73, (.iload_n 2), 1, []), (74, (.invokevirtual 74), 3, [4, 221, 4, 223, 1, 10, 4, 224, 0, 19]), (77, .i2l, 1, []), (78, (.invokevirtual 222), 3, [5, 218, 5, 220, 1, 10, 5, 221, 0, 56]), (81, (.iinc 2 1), 3, []), (84, (.goto (-20)), 3, [64]), (87, (.iinc 1 1), 3, []), (90, (.goto (-34)), 3, [56]), (93, (.iconst 0), 1, []), (94, (.istore_n 1), 1, []), (95, (.iload_n 1), 1, []), (96, (.iconst 3), 1, []), (97, (.if_icmp .ge 14), 3, [111]), (100, (.aload_n 0), 1, []), (101, (.iload_n 1), 1, []), (102, (.invokevirtual 235), 3, [5, 223, 5, 225, 1, 10, 5, 226, 0, 57]), (105, (.iinc 1 1), 3, []), (108, (.goto (-13)), 3, [95]), (111, (.aload_n 0), 1, []), (112, (.getfield 218), 3, [9, 7, 4, 148]), (115, .lreturn, 1, [])]
def co_J6_bitCount_0f7a4 : List Ent := [(0, (.iload_n 0), 1, []), (1, (.iload_n 0), 1, []), (2, (.iconst 1), 1, []), (3, .iushr, 1, []), (4, (.ldc_w 265), 3, [2, 124, 1431655765]), (7, .iand, 1, []), (8, .isub, 1, []), (9, (.istore_n 0), 1, []), (10, (.iload_n 0), 1, []), (11, (.ldc_w 266), 3, [2, 125, 858993459]), (14, .iand, 1, []), (15, (.iload_n 0), 1, []), (16, (.iconst 2), 1, []), (17, .iushr, 1, []), (18, (.ldc_w 266), 3, [2, 125, 858993459]), (21, .iand, 1, []), (22, .iadd, 1, []), (23, (.istore_n 0), 1, []), (24, (.iload_n 0), 1, []), (25, (.iload_n 0), 1, []), (26, (.iconst 4), 1, []), (27, .iushr, 1, []), (28, .iadd, 1, []), (29, (.ldc_w 267), 3, [2, 126, 252645135]), (32, .iand, 1, []), (33, (.istore_n 0), 1, []), (34, (.iload_n 0), 1, []), (35, (.iload_n 0), 1, []), (36, (.bipush 8), 2, []), (38, .iushr, 1, []), (39, .iadd, 1, []), (40, (.istore_n 0), 1, []), (41, (.iload_n 0), 1, []), (42, (.iload_n 0), 1, []), (43, (.bipush 16), 2, []), (45, .iushr, 1, []), (46, .iadd, 1, []), (47, (.istore_n 0), 1, []), (48, (.iload_n 0), 1, []), (49, (.bipush 63), 2, []), (51, .iand, 1, []), (52, .ireturn, 1, [])]
def co_L_place : List Ent := [(0, (.aload 6), 2, []), (2, (.iconst 0), 1, []), (3, (.aload_n 0), 1, []), (4, (.iload_n 1), 1, []), (5, (.iload_n 2), 1, []), (6, (.iload_n 3), 1, []), (7, (.iload 4), 2, []), (9, (.iload 5), 2, []), (11, (.invokevirtual 7), 3, [2, 145, 2, 146, 1, 1, 2, 148, 2, 147]), (14, (.ifCond .eq 7), 3, [21]), (17, (.lconst 1), 1, []), (18, (.goto 4), 3, [22]), (21, (.lconst 0), 1, []), (22, .lastore, 1, []), (23, (.goto 11), 3, [34]), (26, (.astore 7), 2, []), (28, (.iconst 1), 1, []), (29, .ireturn, 1, []), (30, (.astore 7), 2, []), (32, (.iconst 2), 1, []), (33, .ireturn, 1, []), (34, (.iconst 0), 1, []), (35, .ireturn, 1, [])]
def co_L_setVelocity : List Ent := [(0, (.aload 4), 2, []), (2, (.iconst 0), 1, []), (3, (.aload_n 0), 1, []), (4, (.iload_n 1), 1, []), (5, (.iload_n 2), 1, []), (6, (.iload_n 3), 1, []), (7, (.invokevirtual 17), 3, [3, 57, 3, 58, 1, 1, 3, 60, 3, 59]), (10, .i2l, 1, []), (11, .lastore, 1, []), (12, (.goto 15), 3, [27]), (15, (.astore 5), 2, []), (17, (.iconst 1), 1, []), (18, .ireturn, 1, []), (19, (.astore 5), 2, []), (21, (.iconst 2), 1, []), (22, .ireturn, 1, []), (23, (.astore 5), 2, []), (25, (.iconst 3), 1, []), (26, .ireturn, 1, []), (27, (.iconst 0), 1, []), (28, .ireturn, 1, [])]
def co_L_setHealth : List Ent := [(0, (.aload_n 3), 1, []), (1, (.iconst 0), 1, []), (2, (.aload_n 0), 1, []), (3, (.iload_n 1), 1, []), (4, (.iload_n 2), 1, []), (5, (.invokevirtual 23), 3, [3, 89, 3, 90, 1, 1, 3, 92, 3, 91]), (8, .i2l, 1, []), (9, .lastore, 1, []), (10, (.goto 15), 3, [25]), (13, (.astore 4), 2, []), (15, (.iconst 1), 1, []), (16, .ireturn, 1, []), (17, (.astore 4), 2, []), (19, (.iconst 2), 1, []), (20, .ireturn, 1, []), (21, (.astore 4), 2, []), (23, (.iconst 3), 1, []), (24, .ireturn, 1, []), (25, (.iconst 0), 1, []), (26, .ireturn, 1, [])]
def co_L_destroy : List Ent := [(0, (.aload_n 2), 1, []), (1, (.iconst 0), 1, []), (2, (.aload_n 0), 1, []), (3, (.iload_n 1), 1, []), (4, (.invokevirtual 27), 3, [3, 101, 3, 102, 1, 1, 3, 104, 3, 103]), (7, .i2l, 1, []), (8, .lastore, 1, []), (9, (.goto 9), 3, [18]), (12, (.astore_n 3), 1, []), (13, (.iconst 1), 1, []), (14, .ireturn, 1, []), (15, (.astore_n 3), 1, []), (16, (.iconst 2), 1, []), (17, .ireturn, 1, []), (18, (.iconst 0), 1, []), (19, .ireturn, 1, [])]
def co_L_entity : List Ent := [(0, (.aload_n 3), 1, []), (1, (.iconst 0), 1, []), (2, (.aload_n 0), 1, []), (3, (.iload_n 1), 1, []), (4, (.iload_n 2), 1, []), (5, (.invokevirtual 31), 3, [3, 112, 3, 113, 1, 1, 3, 115, 3, 114]), (8, .i2l, 1, []), (9, .lastore, 1, []), (10, (.goto 11), 3, [21]), (13, (.astore 4), 2, []), (15, (.iconst 1), 1, []), (16, .ireturn, 1, []), (17, (.astore 4), 2, []), (19, (.iconst 2), 1, []), (20, .ireturn, 1, []), (21, (.iconst 0), 1, []), (22, .ireturn, 1, [])]
def co_L_connect : List Ent := [(0, (.aload 6), 2, []), (2, (.iconst 0), 1, []), (3, (.aload_n 0), 1, []), (4, (.iload_n 1), 1, []), (5, (.iload_n 2), 1, []), (6, (.iload_n 3), 1, []), (7, (.iload 4), 2, []), (9, (.iload 5), 2, []), (11, (.invokevirtual 34), 3, [3, 119, 3, 120, 1, 1, 3, 122, 3, 121]), (14, (.ifCond .eq 7), 3, [21]), (17, (.lconst 1), 1, []), (18, (.goto 4), 3, [22]), (21, (.lconst 0), 1, []), (22, .lastore, 1, []), (23, (.goto 11), 3, [34]), (26, (.astore 7), 2, []), (28, (.iconst 1), 1, []), (29, .ireturn, 1, []), (30, (.astore 7), 2, []), (32, (.iconst 2), 1, []), (33, .ireturn, 1, []), (34, (.iconst 0), 1, []), (35, .ireturn, 1, [])]
def co_L_look : List Ent := [(0, (.aload 5), 2, []), (2, (.iconst 0), 1, []), (3, (.aload_n 0), 1, []), (4, (.iload_n 1), 1, []), (5, (.iload_n 2), 1, []), (6, (.iload_n 3), 1, []), (7, (.iload 4), 2, []), (9, (.invokevirtual 37), 3, [3, 140, 3, 141, 1, 1, 3, 143, 3, 142]), (12, .i2l, 1, []), (13, .lastore, 1, []), (14, (.goto 15), 3, [29]), (17, (.astore 6), 2, []), (19, (.iconst 1), 1, []), (20, .ireturn, 1, []), (21, (.astore 6), 2, []), (23, (.iconst 2), 1, []), (24, .ireturn, 1, []), (25, (.astore 6), 2, []), (27, (.iconst 3), 1, []), (28, .ireturn, 1, []), (29, (.iconst 0), 1, []), (30, .ireturn, 1, [])]
def co_L_disconnect : List Ent := [(0, (.aload_n 2), 1, []), (1, (.iconst 0), 1, []), (2, (.aload_n 0), 1, []), (3, (.iload_n 1), 1, []), (4, (.invokevirtual 41), 3, [3, 155, 3, 156, 1, 1, 3, 158, 3, 157]), (7, .i2l, 1, []), (8, .lastore, 1, []), (9, (.goto 9), 3, [18]), (12, (.astore_n 3), 1, []), (13, (.iconst 1), 1, []), (14, .ireturn, 1, []), (15, (.astore_n 3), 1, []), (16, (.iconst 2), 1, []), (17, .ireturn, 1, []), (18, (.iconst 0), 1, []), (19, .ireturn, 1, [])]
def co_L_setTimes : List Ent := [(0, (.aload_n 3), 1, []), (1, (.iconst 0), 1, []), (2, (.aload_n 0), 1, []), (3, (.iload_n 1), 1, []), (4, (.iload_n 2), 1, []), (5, (.invokevirtual 44), 3, [3, 162, 3, 163, 1, 1, 3, 165, 3, 164]), (8, .i2l, 1, []), (9, .lastore, 1, []), (10, (.goto 7), 3, [17]), (13, (.astore 4), 2, []), (15, (.iconst 1), 1, []), (16, .ireturn, 1, []), (17, (.iconst 0), 1, []), (18, .ireturn, 1, [])]
def co_L_lose : List Ent := [(0, (.aload 4), 2, []), (2, (.iconst 0), 1, []), (3, (.aload_n 0), 1, []), (4, (.iload_n 1), 1, []), (5, (.iload_n 2), 1, []), (6, (.iload_n 3), 1, []), (7, (.invokevirtual 47), 3, [3, 169, 3, 170, 1, 1, 3, 172, 3, 171]), (10, .i2l, 1, []), (11, .lastore, 1, []), (12, (.goto 15), 3, [27]), (15, (.astore 5), 2, []), (17, (.iconst 1), 1, []), (18, .ireturn, 1, []), (19, (.astore 5), 2, []), (21, (.iconst 2), 1, []), (22, .ireturn, 1, []), (23, (.astore 5), 2, []), (25, (.iconst 3), 1, []), (26, .ireturn, 1, []), (27, (.iconst 0), 1, []), (28, .ireturn, 1, [])]
def co_L_tick : List Ent := [(0, (.aload_n 2), 1, []), (1, (.iconst 0), 1, []), (2, (.aload_n 0), 1, []), (3, (.iload_n 1), 1, []), (4, (.invokevirtual 50), 3, [3, 176, 3, 177, 1, 1, 3, 179, 3, 178]), (7, .i2l, 1, []), (8, .lastore, 1, []), (9, (.goto 6), 3, [15]), (12, (.astore_n 3), 1, []), (13, (.iconst 1), 1, []), (14, .ireturn, 1, []), (15, (.iconst 0), 1, []), (16, .ireturn, 1, [])]
def co_L_copy : List Ent := [(0, (.aload 4), 2, []), (2, (.iconst 0), 1, []), (3, (.aload_n 0), 1, []), (4, (.iload_n 1), 1, []), (5, (.iload_n 2), 1, []), (6, (.iload_n 3), 1, []), (7, (.invokevirtual 53), 3, [4, 63, 4, 64, 1, 1, 4, 66, 4, 65]), (10, .i2l, 1, []), (11, .lastore, 1, []), (12, (.goto 11), 3, [23]), (15, (.astore 5), 2, []), (17, (.iconst 1), 1, []), (18, .ireturn, 1, []), (19, (.astore 5), 2, []), (21, (.iconst 2), 1, []), (22, .ireturn, 1, []), (23, (.iconst 0), 1, []), (24, .ireturn, 1, [])]
def co_L_kept : List Ent := [(0, (.aload 4), 2, []), (2, (.iconst 0), 1, []), (3, (.aload_n 0), 1, []), (4, (.iload_n 1), 1, []), (5, (.iload_n 2), 1, []), (6, (.iload_n 3), 1, []), (7, (.invokevirtual 56), 3, [4, 70, 4, 71, 1, 1, 4, 73, 4, 72]), (10, .i2l, 1, []), (11, .lastore, 1, []), (12, (.goto 15), 3, [27]), (15, (.astore 5), 2, []), (17, (.iconst 1), 1, []), (18, .ireturn, 1, []), (19, (.astore 5), 2, []), (21, (.iconst 2), 1, []), (22, .ireturn, 1, []), (23, (.astore 5), 2, []), (25, (.iconst 3), 1, []), (26, .ireturn, 1, []), (27, (.iconst 0), 1, []), (28, .ireturn, 1, [])]
def co_L_count : List Ent := [(0, (.aload_n 3), 1, []), (1, (.iconst 0), 1, []), (2, (.aload_n 0), 1, []), (3, (.iload_n 1), 1, []), (4, (.iload_n 2), 1, []), (5, (.invokevirtual 59), 3, [4, 77, 4, 78, 1, 1, 4, 80, 4, 79]), (8, .i2l, 1, []), (9, .lastore, 1, []), (10, (.goto 11), 3, [21]), (13, (.astore 4), 2, []), (15, (.iconst 1), 1, []), (16, .ireturn, 1, []), (17, (.astore 4), 2, []), (19, (.iconst 2), 1, []), (20, .ireturn, 1, []), (21, (.iconst 0), 1, []), (22, .ireturn, 1, [])]
def co_L_stale : List Ent := [(0, (.aload_n 2), 1, []), (1, (.iconst 0), 1, []), (2, (.aload_n 0), 1, []), (3, (.iload_n 1), 1, []), (4, (.invokevirtual 62), 3, [4, 84, 4, 85, 1, 1, 4, 87, 4, 86]), (7, .i2l, 1, []), (8, .lastore, 1, []), (9, (.goto 9), 3, [18]), (12, (.astore_n 3), 1, []), (13, (.iconst 1), 1, []), (14, .ireturn, 1, []), (15, (.astore_n 3), 1, []), (16, (.iconst 2), 1, []), (17, .ireturn, 1, []), (18, (.iconst 0), 1, []), (19, .ireturn, 1, [])]
def co_L_packet : List Ent := [(0, (.aload 4), 2, []), (2, (.iconst 0), 1, []), (3, (.aload_n 0), 1, []), (4, (.iload_n 1), 1, []), (5, (.iload_n 2), 1, []), (6, (.iload_n 3), 1, []), (7, (.invokevirtual 65), 3, [4, 91, 4, 92, 1, 1, 4, 94, 4, 93]), (10, .i2l, 1, []), (11, .lastore, 1, []), (12, (.goto 11), 3, [23]), (15, (.astore 5), 2, []), (17, (.iconst 1), 1, []), (18, .ireturn, 1, []), (19, (.astore 5), 2, []), (21, (.iconst 2), 1, []), (22, .ireturn, 1, []), (23, (.iconst 0), 1, []), (24, .ireturn, 1, [])]
def co_L_entry : List Ent := [(0, (.aload 5), 2, []), (2, (.iconst 0), 1, []), (3, (.aload_n 0), 1, []), (4, (.iload_n 1), 1, []), (5, (.iload_n 2), 1, []), (6, (.iload_n 3), 1, []), (7, (.iload 4), 2, []), (9, (.invokevirtual 68), 3, [4, 102, 4, 103, 1, 1, 4, 105, 4, 104]), (12, .i2l, 1, []), (13, .lastore, 1, []), (14, (.goto 11), 3, [25]), (17, (.astore 6), 2, []), (19, (.iconst 1), 1, []), (20, .ireturn, 1, []), (21, (.astore 6), 2, []), (23, (.iconst 2), 1, []), (24, .ireturn, 1, []), (25, (.iconst 0), 1, []), (26, .ireturn, 1, [])]
def co_L_price : List Ent := [(0, (.aload_n 3), 1, []), (1, (.iconst 0), 1, []), (2, (.aload_n 0), 1, []), (3, (.iload_n 1), 1, []), (4, (.iload_n 2), 1, []), (5, (.invokevirtual 71), 3, [4, 109, 4, 110, 1, 1, 4, 112, 4, 111]), (8, .i2l, 1, []), (9, .lastore, 1, []), (10, (.goto 11), 3, [21]), (13, (.astore 4), 2, []), (15, (.iconst 1), 1, []), (16, .ireturn, 1, []), (17, (.astore 4), 2, []), (19, (.iconst 2), 1, []), (20, .ireturn, 1, []), (21, (.iconst 0), 1, []), (22, .ireturn, 1, [])]
def co_L_undo : List Ent := [(0, (.aload_n 1), 1, []), (1, (.iconst 0), 1, []), (2, (.aload_n 0), 1, []), (3, (.invokevirtual 74), 3, [4, 116, 4, 117, 1, 1, 4, 119, 4, 118]), (6, .i2l, 1, []), (7, .lastore, 1, []), (8, (.goto 6), 3, [14]), (11, (.astore_n 2), 1, []), (12, (.iconst 1), 1, []), (13, .ireturn, 1, []), (14, (.iconst 0), 1, []), (15, .ireturn, 1, [])]
def co_L_law : List Ent := [(0, (.new 8), 3, [1, 47, 2, 1, 21, 1, 22, 1, 1]), (3, .dup, 1, []), (4, (.invokespecial 78), 3, [1, 19, 1, 23, 1, 24, 1, 1, 1, 25]), (7, (.astore_n 1), 1, []), (8, (.new 79), 3, [1, 49, 8, 4, 125, 4, 126, 1, 10]), (11, .dup, 1, []), (12, (.invokespecial 81), 3, [1, 20, 4, 127, 4, 128, 1, 10, 4, 129]), (15, (.astore_n 2), 1, []), (16, (.iconst 1), 1, []), (17, (.newarray .long), 2, [7, 1, 5, 235]), (19, (.astore_n 3), 1, []), (20, (.iconst 0), 1, []), (21, (.istore 4), 2, []), (23, (.iload 4), 2, []), (25, (.aload_n 0), 1, []), (26, .arraylength, 1, []), (27, (.bipush 6), 2, []), (29, .isub, 1, []), (30, (.if_icmp .gt 1557), 3, [1587]), (33, (.aload_n 0), 1, []), (34, (.iload 4), 2, []), (36, .iaload, 1, []), (37, (.bipush 31), 2, []), (39, .iand, 1, []), (40, (.tableswitch 1541 0 20 #[100, 211, 291, 359, 415, 483, 594, 686, 742, 810, 890, 946, 959, 1039, 1119, 1187, 1243, 1323, 1415, 1483, 1527]), 100, [1581, 140, 251, 331, 399, 455, 523, 634, 726, 782, 850, 930, 986, 999, 1079, 1159, 1227, 1283, 1363, 1455, 1523, 1567]), (140, (.aload_n 1), 1, []), (141, (.aload_n 0), 1, []), (142, (.iload 4), 2, []), (144, (.iconst 1), 1, []), (145, .iadd, 1, []), (146, .iaload, 1, []), (147, (.aload_n 0), 1, []), (148, (.iload 4), 2, []), (150, (.iconst 2), 1, []), (151, .iadd, 1, []), (152, .iaload, 1, []), (153, (.aload_n 0), 1, []), (154, (.iload 4), 2, []), (156, (.iconst 3), 1, []), (157, .iadd, 1, []), (158, .iaload, 1, []), (159, (.aload_n 0), 1, []), (160, (.iload 4), 2, []), (162, (.iconst 4), 1, []), (163, .iadd, 1, []), (164, .iaload, 1, []), (165, (.aload_n 0), 1, []), (166, (.iload 4), 2, []), (168, (.iconst 5), 1, []), (169, .iadd, 1, []), (170, .iaload, 1, []), (171, (.aload_n 3), 1, []), (172, (.invokestatic 82), 3, [1, 2, 140, 2, 141, 1, 0, 2, 142]), (175, (.istore 5), 2, []), (177, (.aload_n 2), 1, []), (178, (.aload_n 0), 1, []), (179, (.iload 4), 2, []), (181, (.iconst 1), 1, []), (182, .iadd, 1, []), (183, .iaload, 1, []), (184, (.aload_n 0), 1, []), (185, (.iload 4), 2, []), (187, (.iconst 2), 1, []), (188, .iadd, 1, []), (189, .iaload, 1, []), (190, (.aload_n 0), 1, []), (191, (.iload 4), 2, []), (193, (.iconst 3), 1, []), (194, .iadd, 1, []), (195, .iaload, 1, []), (196, (.aload_n 0), 1, []), (197, (.iload 4), 2, []), (199, (.iconst 4), 1, []), (200, .iadd, 1, []), (201, .iaload, 1, []), (202, (.aload_n 0), 1, []), (203, (.iload 4), 2, []), (205, (.iconst 5), 1, []), (206, .iadd, 1, []), (207, .iaload, 1, []), (208, (.invokevirtual 87), 3, [4, 171, 4, 172, 1, 10, 4, 174, 4, 173]), (211, (.istore 6), 2, []), (213, (.aload_n 2), 1, []), (214, (.invokevirtual 88), 3, [4, 167, 4, 168, 1, 10, 4, 170, 4, 169]), (217, (.iload 5), 2, []), (219, (.if_icmp .eq 5), 3, [224]), (222, (.iconst 0), 1, []), (223, .ireturn, 1, []), (224, (.iload 5), 2, []), (226, (.ifCond .ne 22), 3, [248]), (229, (.aload_n 3), 1, []), (230, (.iconst 0), 1, []), (231, .laload, 1, []), (232, (.iload 6), 2, []), (234, (.ifCond .eq 7), 3, [241]), (237, (.lconst 1), 1, []), (238, (.goto 4), 3, [242]), (241, (.lconst 0), 1, []), (242, .lcmp, 1, []), (243, (.ifCond .eq 5), 3, [248]), (246, (.iconst 0), 1, []), (247, .ireturn, 1, []), (248, (.goto 1333), 3, [1581]), (251, (.aload_n 1), 1, []), (252, (.aload_n 0), 1, []), (253, (.iload 4), 2, []), (255, (.iconst 1), 1, []), (256, .iadd, 1, []), (257, .iaload, 1, []), (258, (.aload_n 0), 1, []), (259, (.iload 4), 2, []), (261, (.iconst 2), 1, []), (262, .iadd, 1, []), (263, .iaload, 1, []), (264, (.aload_n 0), 1, []), (265, (.iload 4), 2, []), (267, (.iconst 3), 1, []), (268, .iadd, 1, []), (269, .iaload, 1, []), (270, (.aload_n 3), 1, []), (271, (.invokestatic 91), 3, [1, 3, 53, 3, 54, 1, 0, 3, 55]), (274, (.istore 5), 2, []), (276, (.aload_n 2), 1, []), (277, (.aload_n 0), 1, []), (278, (.iload 4), 2, []), (280, (.iconst 1), 1, []), (281, .iadd, 1, []), (282, .iaload, 1, []), (283, (.aload_n 0), 1, []), (284, (.iload 4), 2, []), (286, (.iconst 2), 1, []), (287, .iadd, 1, []), (288, .iaload, 1, []), (289, (.aload_n 0), 1, []), (290, (.iload 4), 2, []), (292, (.iconst 3), 1, []), (293, .iadd, 1, []), (294, .iaload, 1, []), (295, (.invokevirtual 94), 3, [4, 202, 4, 203, 1, 10, 4, 205, 4, 204]), (298, (.istore 6), 2, []), (300, (.aload_n 2), 1, []), (301, (.invokevirtual 88), 3, [4, 167, 4, 168, 1, 10, 4, 170, 4, 169]), (304, (.iload 5), 2, []), (306, (.if_icmp .eq 5), 3, [311]), (309, (.iconst 0), 1, []), (310, .ireturn, 1, []), (311, (.iload 5), 2, []), (313, (.ifCond .ne 15), 3, [328]), (316, (.aload_n 3), 1, []), (317, (.iconst 0), 1, []), (318, .laload, 1, []), (319, (.iload 6), 2, []), (321, .i2l, 1, []), (322, .lcmp, 1, []), (323, (.ifCond .eq 5), 3, [328]), (326, (.iconst 0), 1, []), (327, .ireturn, 1, []), (328, (.goto 1253), 3, [1581]), (331, (.aload_n 1), 1, []), (332, (.aload_n 0), 1, []), (333, (.iload 4), 2, []), (335, (.iconst 1), 1, []), (336, .iadd, 1, []), (337, .iaload, 1, []), (338, (.aload_n 0), 1, []), (339, (.iload 4), 2, []), (341, (.iconst 2), 1, []), (342, .iadd, 1, []), (343, .iaload, 1, []), (344, (.aload_n 3), 1, []), (345, (.invokestatic 95), 3, [1, 3, 86, 3, 87, 1, 0, 3, 88]), (348, (.istore 5), 2, []), (350, (.aload_n 2), 1, []), (351, (.aload_n 0), 1, []), (352, (.iload 4), 2, []), (354, (.iconst 1), 1, []), (355, .iadd, 1, []), (356, .iaload, 1, []), (357, (.aload_n 0), 1, []), (358, (.iload 4), 2, []), (360, (.iconst 2), 1, []), (361, .iadd, 1, []), (362, .iaload, 1, []), (363, (.invokevirtual 98), 3, [4, 206, 4, 207, 1, 10, 4, 209, 4, 208]), (366, (.istore 6), 2, []), (368, (.aload_n 2), 1, []), (369, (.invokevirtual 88), 3, [4, 167, 4, 168, 1, 10, 4, 170, 4, 169]), (372, (.iload 5), 2, []), (374, (.if_icmp .eq 5), 3, [379]), (377, (.iconst 0), 1, []), (378, .ireturn, 1, []), (379, (.iload 5), 2, []), (381, (.ifCond .ne 15), 3, [396]), (384, (.aload_n 3), 1, []), (385, (.iconst 0), 1, []), (386, .laload, 1, []), (387, (.iload 6), 2, []), (389, .i2l, 1, []), (390, .lcmp, 1, []), (391, (.ifCond .eq 5), 3, [396]), (394, (.iconst 0), 1, []), (395, .ireturn, 1, []), (396, (.goto 1185), 3, [1581]), (399, (.aload_n 1), 1, []), (400, (.aload_n 0), 1, []), (401, (.iload 4), 2, []), (403, (.iconst 1), 1, []), (404, .iadd, 1, []), (405, .iaload, 1, []), (406, (.aload_n 3), 1, []), (407, (.invokestatic 99), 3, [1, 3, 98, 3, 99, 1, 0, 3, 100]), (410, (.istore 5), 2, []), (412, (.aload_n 2), 1, []), (413, (.aload_n 0), 1, []), (414, (.iload 4), 2, []), (416, (.iconst 1), 1, []), (417, .iadd, 1, []), (418, .iaload, 1, []), (419, (.invokevirtual 102), 3, [4, 213, 4, 214, 1, 10, 4, 216, 4, 215]), (422, (.istore 6), 2, []), (424, (.aload_n 2), 1, []), (425, (.invokevirtual 88), 3, [4, 167, 4, 168, 1, 10, 4, 170, 4, 169]), (428, (.iload 5), 2, []), (430, (.if_icmp .eq 5), 3, [435]), (433, (.iconst 0), 1, []), (434, .ireturn, 1, []), (435, (.iload 5), 2, []), (437, (.ifCond .ne 15), 3, [452]), (440, (.aload_n 3), 1, []), (441, (.iconst 0), 1, []), (442, .laload, 1, []), (443, (.iload 6), 2, []), (445, .i2l, 1, []), (446, .lcmp, 1, []), (447, (.ifCond .eq 5), 3, [452]), (450, (.iconst 0), 1, []), (451, .ireturn, 1, []), (452, (.goto 1129), 3, [1581]), (455, (.aload_n 1), 1, []), (456, (.aload_n 0), 1, []), (457, (.iload 4), 2, []), (459, (.iconst 1), 1, []), (460, .iadd, 1, []), (461, .iaload, 1, []), (462, (.aload_n 0), 1, []), (463, (.iload 4), 2, []), (465, (.iconst 2), 1, []), (466, .iadd, 1, []), (467, .iaload, 1, []), (468, (.aload_n 3), 1, []), (469, (.invokestatic 103), 3, [1, 3, 109, 3, 110, 1, 0, 3, 111]), (472, (.istore 5), 2, []), (474, (.aload_n 2), 1, []), (475, (.aload_n 0), 1, []), (476, (.iload 4), 2, []), (478, (.iconst 1), 1, []), (479, .iadd, 1, []), (480, .iaload, 1, []), (481, (.aload_n 0), 1, []), (482, (.iload 4), 2, []), (484, (.iconst 2), 1, []), (485, .iadd, 1, []), (486, .iaload, 1, []), (487, (.invokevirtual 105), 3, [4, 217, 4, 218, 1, 10, 4, 220, 4, 219]), (490, (.istore 6), 2, []), (492, (.aload_n 2), 1, []), (493, (.invokevirtual 88), 3, [4, 167, 4, 168, 1, 10, 4, 170, 4, 169]), (496, (.iload 5), 2, []), (498, (.if_icmp .eq 5), 3, [503]), (501, (.iconst 0), 1, []), (502, .ireturn, 1, []), (503, (.iload 5), 2, []), (505, (.ifCond .ne 15), 3, [520]), (508, (.aload_n 3), 1, []), (509, (.iconst 0), 1, []), (510, .laload, 1, []), (511, (.iload 6), 2, []), (513, .i2l, 1, []), (514, .lcmp, 1, []), (515, (.ifCond .eq 5), 3, [520]), (518, (.iconst 0), 1, []), (519, .ireturn, 1, []), (520, (.goto 1061), 3, [1581]), (523, (.aload_n 1), 1, []), (524, (.aload_n 0), 1, []), (525, (.iload 4), 2, []), (527, (.iconst 1), 1, []), (528, .iadd, 1, []), (529, .iaload, 1, []), (530, (.aload_n 0), 1, []), (531, (.iload 4), 2, []), (533, (.iconst 2), 1, []), (534, .iadd, 1, []), (535, .iaload, 1, []), (536, (.aload_n 0), 1, []), (537, (.iload 4), 2, []), (539, (.iconst 3), 1, []), (540, .iadd, 1, []), (541, .iaload, 1, []), (542, (.aload_n 0), 1, []), (543, (.iload 4), 2, []), (545, (.iconst 4), 1, []), (546, .iadd, 1, []), (547, .iaload, 1, []), (548, (.aload_n 0), 1, []), (549, (.iload 4), 2, []), (551, (.iconst 5), 1, []), (552, .iadd, 1, []), (553, .iaload, 1, []), (554, (.aload_n 3), 1, []), (555, (.invokestatic 106), 3, [1, 3, 116, 3, 117, 1, 0, 3, 118]), (558, (.istore 5), 2, []), (560, (.aload_n 2), 1, []), (561, (.aload_n 0), 1, []), (562, (.iload 4), 2, []), (564, (.iconst 1), 1, []), (565, .iadd, 1, []), (566, .iaload, 1, []), (567, (.aload_n 0), 1, []), (568, (.iload 4), 2, []), (570, (.iconst 2), 1, []), (571, .iadd, 1, []), (572, .iaload, 1, []), (573, (.aload_n 0), 1, []), (574, (.iload 4), 2, []), (576, (.iconst 3), 1, []), (577, .iadd, 1, []), (578, .iaload, 1, []), (579, (.aload_n 0), 1, []), (580, (.iload 4), 2, []), (582, (.iconst 4), 1, []), (583, .iadd, 1, []), (584, .iaload, 1, []), (585, (.aload_n 0), 1, []), (586, (.iload 4), 2, []), (588, (.iconst 5), 1, []), (589, .iadd, 1, []), (590, .iaload, 1, []), (591, (.invokevirtual 108), 3, [4, 228, 4, 229, 1, 10, 4, 231, 4, 230]), (594, (.istore 6), 2, []), (596, (.aload_n 2), 1, []), (597, (.invokevirtual 88), 3, [4, 167, 4, 168, 1, 10, 4, 170, 4, 169]), (600, (.iload 5), 2, []), (602, (.if_icmp .eq 5), 3, [607]), (605, (.iconst 0), 1, []), (606, .ireturn, 1, []), (607, (.iload 5), 2, []), (609, (.ifCond .ne 22), 3, [631]), (612, (.aload_n 3), 1, []), (613, (.iconst 0), 1, []), (614, .laload, 1, []), (615, (.iload 6), 2, []), (617, (.ifCond .eq 7), 3, [624]), (620, (.lconst 1), 1, []), (621, (.goto 4), 3, [625]), (624, (.lconst 0), 1, []), (625, .lcmp, 1, []), (626, (.ifCond .eq 5), 3, [631]), (629, (.iconst 0), 1, []), (630, .ireturn, 1, []), (631, (.goto 950), 3, [1581]), (634, (.aload_n 1), 1, []), (635, (.aload_n 0), 1, []), (636, (.iload 4), 2, []), (638, (.iconst 1), 1, []), (639, .iadd, 1, []), (640, .iaload, 1, []), (641, (.aload_n 0), 1, []), (642, (.iload 4), 2, []), (644, (.iconst 2), 1, []), (645, .iadd, 1, []), (646, .iaload, 1, []), (647, (.aload_n 0), 1, []), (648, (.iload 4), 2, []), (650, (.iconst 3), 1, []), (651, .iadd, 1, []), (652, .iaload, 1, []), (653, (.aload_n 0), 1, []), (654, (.iload 4), 2, []), (656, (.iconst 4), 1, []), (657, .iadd, 1, []), (658, .iaload, 1, []), (659, (.aload_n 3), 1, []), (660, (.invokestatic 109), 3, [1, 3, 137, 3, 138, 1, 0, 3, 139]), (663, (.istore 5), 2, []), (665, (.aload_n 2), 1, []), (666, (.aload_n 0), 1, []), (667, (.iload 4), 2, []), (669, (.iconst 1), 1, []), (670, .iadd, 1, []), (671, .iaload, 1, []), (672, (.aload_n 0), 1, []), (673, (.iload 4), 2, []), (675, (.iconst 2), 1, []), (676, .iadd, 1, []), (677, .iaload, 1, []), (678, (.aload_n 0), 1, []), (679, (.iload 4), 2, []), (681, (.iconst 3), 1, []), (682, .iadd, 1, []), (683, .iaload, 1, []), (684, (.aload_n 0), 1, []), (685, (.iload 4), 2, []), (687, (.iconst 4), 1, []), (688, .iadd, 1, []), (689, .iaload, 1, []), (690, (.invokevirtual 112), 3, [5, 7, 5, 8, 1, 10, 5, 10, 5, 9]), (693, (.istore 6), 2, []), (695, (.aload_n 2), 1, []), (696, (.invokevirtual 88), 3, [4, 167, 4, 168, 1, 10, 4, 170, 4, 169]), (699, (.iload 5), 2, []), (701, (.if_icmp .eq 5), 3, [706]), (704, (.iconst 0), 1, []), (705, .ireturn, 1, []), (706, (.iload 5), 2, []), (708, (.ifCond .ne 15), 3, [723]), (711, (.aload_n 3), 1, []), (712, (.iconst 0), 1, []), (713, .laload, 1, []), (714, (.iload 6), 2, []), (716, .i2l, 1, []), (717, .lcmp, 1, []), (718, (.ifCond .eq 5), 3, [723]), (721, (.iconst 0), 1, []), (722, .ireturn, 1, []), (723, (.goto 858), 3, [1581]), (726, (.aload_n 1), 1, []), (727, (.aload_n 0), 1, []), (728, (.iload 4), 2, []), (730, (.iconst 1), 1, []), (731, .iadd, 1, []), (732, .iaload, 1, []), (733, (.aload_n 3), 1, []), (734, (.invokestatic 113), 3, [1, 3, 152, 3, 153, 1, 0, 3, 154]), (737, (.istore 5), 2, []), (739, (.aload_n 2), 1, []), (740, (.aload_n 0), 1, []), (741, (.iload 4), 2, []), (743, (.iconst 1), 1, []), (744, .iadd, 1, []), (745, .iaload, 1, []), (746, (.invokevirtual 115), 3, [5, 22, 5, 23, 1, 10, 5, 25, 5, 24]), (749, (.istore 6), 2, []), (751, (.aload_n 2), 1, []), (752, (.invokevirtual 88), 3, [4, 167, 4, 168, 1, 10, 4, 170, 4, 169]), (755, (.iload 5), 2, []), (757, (.if_icmp .eq 5), 3, [762]), (760, (.iconst 0), 1, []), (761, .ireturn, 1, []), (762, (.iload 5), 2, []), (764, (.ifCond .ne 15), 3, [779]), (767, (.aload_n 3), 1, []), (768, (.iconst 0), 1, []), (769, .laload, 1, []), (770, (.iload 6), 2, []), (772, .i2l, 1, []), (773, .lcmp, 1, []), (774, (.ifCond .eq 5), 3, [779]), (777, (.iconst 0), 1, []), (778, .ireturn, 1, []), (779, (.goto 802), 3, [1581]), (782, (.aload_n 1), 1, []), (783, (.aload_n 0), 1, []), (784, (.iload 4), 2, []), (786, (.iconst 1), 1, []), (787, .iadd, 1, []), (788, .iaload, 1, []), (789, (.aload_n 0), 1, []), (790, (.iload 4), 2, []), (792, (.iconst 2), 1, []), (793, .iadd, 1, []), (794, .iaload, 1, []), (795, (.aload_n 3), 1, []), (796, (.invokestatic 116), 3, [1, 3, 159, 3, 160, 1, 0, 3, 161]), (799, (.istore 5), 2, []), (801, (.aload_n 2), 1, []), (802, (.aload_n 0), 1, []), (803, (.iload 4), 2, []), (805, (.iconst 1), 1, []), (806, .iadd, 1, []), (807, .iaload, 1, []), (808, (.aload_n 0), 1, []), (809, (.iload 4), 2, []), (811, (.iconst 2), 1, []), (812, .iadd, 1, []), (813, .iaload, 1, []), (814, (.invokevirtual 118), 3, [5, 26, 5, 27, 1, 10, 5, 29, 5, 28]), (817, (.istore 6), 2, []), (819, (.aload_n 2), 1, []), (820, (.invokevirtual 88), 3, [4, 167, 4, 168, 1, 10, 4, 170, 4, 169]), (823, (.iload 5), 2, []), (825, (.if_icmp .eq 5), 3, [830]), (828, (.iconst 0), 1, []), (829, .ireturn, 1, []), (830, (.iload 5), 2, []), (832, (.ifCond .ne 15), 3, [847]), (835, (.aload_n 3), 1, []), (836, (.iconst 0), 1, []), (837, .laload, 1, []), (838, (.iload 6), 2, []), (840, .i2l, 1, []), (841, .lcmp, 1, []), (842, (.ifCond .eq 5), 3, [847]), (845, (.iconst 0), 1, []), (846, .ireturn, 1, []), (847, (.goto 734), 3, [1581]), (850, (.aload_n 1), 1, []), (851, (.aload_n 0), 1, []), (852, (.iload 4), 2, []), (854, (.iconst 1), 1, []), (855, .iadd, 1, []), (856, .iaload, 1, []), (857, (.aload_n 0), 1, []), (858, (.iload 4), 2, []), (860, (.iconst 2), 1, []), (861, .iadd, 1, []), (862, .iaload, 1, []), (863, (.aload_n 0), 1, []), (864, (.iload 4), 2, []), (866, (.iconst 3), 1, []), (867, .iadd, 1, []), (868, .iaload, 1, []), (869, (.aload_n 3), 1, []), (870, (.invokestatic 119), 3, [1, 3, 166, 3, 167, 1, 0, 3, 168]), (873, (.istore 5), 2, []), (875, (.aload_n 2), 1, []), (876, (.aload_n 0), 1, []), (877, (.iload 4), 2, []), (879, (.iconst 1), 1, []), (880, .iadd, 1, []), (881, .iaload, 1, []), (882, (.aload_n 0), 1, []), (883, (.iload 4), 2, []), (885, (.iconst 2), 1, []), (886, .iadd, 1, []), (887, .iaload, 1, []), (888, (.aload_n 0), 1, []), (889, (.iload 4), 2, []), (891, (.iconst 3), 1, []), (892, .iadd, 1, []), (893, .iaload, 1, []), (894, (.invokevirtual 121), 3, [5, 30, 5, 31, 1, 10, 5, 33, 5, 32]), (897, (.istore 6), 2, []), (899, (.aload_n 2), 1, []), (900, (.invokevirtual 88), 3, [4, 167, 4, 168, 1, 10, 4, 170, 4, 169]), (903, (.iload 5), 2, []), (905, (.if_icmp .eq 5), 3, [910]), (908, (.iconst 0), 1, []), (909, .ireturn, 1, []), (910, (.iload 5), 2, []), (912, (.ifCond .ne 15), 3, [927]), (915, (.aload_n 3), 1, []), (916, (.iconst 0), 1, []), (917, .laload, 1, []), (918, (.iload 6), 2, []), (920, .i2l, 1, []), (921, .lcmp, 1, []), (922, (.ifCond .eq 5), 3, [927]), (925, (.iconst 0), 1, []), (926, .ireturn, 1, []), (927, (.goto 654), 3, [1581]), (930, (.aload_n 1), 1, []), (931, (.aload_n 0), 1, []), (932, (.iload 4), 2, []), (934, (.iconst 1), 1, []), (935, .iadd, 1, []), (936, .iaload, 1, []), (937, (.aload_n 3), 1, []), (938, (.invokestatic 122), 3, [1, 3, 173, 3, 174, 1, 0, 3, 175]), (941, (.istore 5), 2, []), (943, (.aload_n 2), 1, []), (944, (.aload_n 0), 1, []), (945, (.iload 4), 2, []), (947, (.iconst 1), 1, []), (948, .iadd, 1, []), (949, .iaload, 1, []), (950, (.invokevirtual 124), 3, [5, 34, 5, 35, 1, 10, 5, 37, 5, 36]), (953, (.istore 6), 2, []), (955, (.aload_n 2), 1, []), (956, (.invokevirtual 88), 3, [4, 167, 4, 168, 1, 10, 4, 170, 4, 169]), (959, (.iload 5), 2, []), (961, (.if_icmp .eq 5), 3, [966]), (964, (.iconst 0), 1, []), (965, .ireturn, 1, []), (966, (.iload 5), 2, []), (968, (.ifCond .ne 15), 3, [983]), (971, (.aload_n 3), 1, []), (972, (.iconst 0), 1, []), (973, .laload, 1, []), (974, (.iload 6), 2, []), (976, .i2l, 1, []), (977, .lcmp, 1, []), (978, (.ifCond .eq 5), 3, [983]), (981, (.iconst 0), 1, []), (982, .ireturn, 1, []), (983, (.goto 598), 3, [1581]), (986, (.aload_n 1), 1, []), (987, (.invokevirtual 125), 3, [2, 28, 2, 29, 1, 1, 2, 31, 2, 30]), (990, (.aload_n 2), 1, []), (991, (.invokevirtual 128), 3, [5, 141, 5, 142, 1, 10, 5, 144, 5, 143]), (994, (.if_icmp .eq 587), 3, [1581]), (997, (.iconst 0), 1, []), (998, .ireturn, 1, []), (999, (.aload_n 1), 1, []), (1000, (.aload_n 0), 1, []), (1001, (.iload 4), 2, []), (1003, (.iconst 1), 1, []), (1004, .iadd, 1, []), (1005, .iaload, 1, []), (1006, (.aload_n 0), 1, []), (1007, (.iload 4), 2, []), (1009, (.iconst 2), 1, []), (1010, .iadd, 1, []), (1011, .iaload, 1, []), (1012, (.aload_n 0), 1, []), (1013, (.iload 4), 2, []), (1015, (.iconst 3), 1, []), (1016, .iadd, 1, []), (1017, .iaload, 1, []), (1018, (.aload_n 3), 1, []), (1019, (.invokestatic 129), 3, [1, 4, 60, 4, 61, 1, 0, 4, 62]), (1022, (.istore 5), 2, []), (1024, (.aload_n 2), 1, []), (1025, (.aload_n 0), 1, []), (1026, (.iload 4), 2, []), (1028, (.iconst 1), 1, []), (1029, .iadd, 1, []), (1030, .iaload, 1, []), (1031, (.aload_n 0), 1, []), (1032, (.iload 4), 2, []), (1034, (.iconst 2), 1, []), (1035, .iadd, 1, []), (1036, .iaload, 1, []), (1037, (.aload_n 0), 1, []), (1038, (.iload 4), 2, []), (1040, (.iconst 3), 1, []), (1041, .iadd, 1, []), (1042, .iaload, 1, []), (1043, (.invokevirtual 131), 3, [5, 145, 5, 146, 1, 10, 5, 148, 5, 147]), (1046, (.istore 6), 2, []), (1048, (.aload_n 2), 1, []), (1049, (.invokevirtual 88), 3, [4, 167, 4, 168, 1, 10, 4, 170, 4, 169]), (1052, (.iload 5), 2, []), (1054, (.if_icmp .eq 5), 3, [1059]), (1057, (.iconst 0), 1, []), (1058, .ireturn, 1, []), (1059, (.iload 5), 2, []), (1061, (.ifCond .ne 15), 3, [1076]), (1064, (.aload_n 3), 1, []), (1065, (.iconst 0), 1, []), (1066, .laload, 1, []), (1067, (.iload 6), 2, []), (1069, .i2l, 1, []), (1070, .lcmp, 1, []), (1071, (.ifCond .eq 5), 3, [1076]), (1074, (.iconst 0), 1, []), (1075, .ireturn, 1, []), (1076, (.goto 505), 3, [1581]), (1079, (.aload_n 1), 1, []), (1080, (.aload_n 0), 1, []), (1081, (.iload 4), 2, []), (1083, (.iconst 1), 1, []), (1084, .iadd, 1, []), (1085, .iaload, 1, []), (1086, (.aload_n 0), 1, []), (1087, (.iload 4), 2, []), (1089, (.iconst 2), 1, []), (1090, .iadd, 1, []), (1091, .iaload, 1, []), (1092, (.aload_n 0), 1, []), (1093, (.iload 4), 2, []), (1095, (.iconst 3), 1, []), (1096, .iadd, 1, []), (1097, .iaload, 1, []), (1098, (.aload_n 3), 1, []), (1099, (.invokestatic 132), 3, [1, 4, 67, 4, 68, 1, 0, 4, 69]), (1102, (.istore 5), 2, []), (1104, (.aload_n 2), 1, []), (1105, (.aload_n 0), 1, []), (1106, (.iload 4), 2, []), (1108, (.iconst 1), 1, []), (1109, .iadd, 1, []), (1110, .iaload, 1, []), (1111, (.aload_n 0), 1, []), (1112, (.iload 4), 2, []), (1114, (.iconst 2), 1, []), (1115, .iadd, 1, []), (1116, .iaload, 1, []), (1117, (.aload_n 0), 1, []), (1118, (.iload 4), 2, []), (1120, (.iconst 3), 1, []), (1121, .iadd, 1, []), (1122, .iaload, 1, []), (1123, (.invokevirtual 134), 3, [5, 157, 5, 158, 1, 10, 5, 160, 5, 159]), (1126, (.istore 6), 2, []), (1128, (.aload_n 2), 1, []), (1129, (.invokevirtual 88), 3, [4, 167, 4, 168, 1, 10, 4, 170, 4, 169]), (1132, (.iload 5), 2, []), (1134, (.if_icmp .eq 5), 3, [1139]), (1137, (.iconst 0), 1, []), (1138, .ireturn, 1, []), (1139, (.iload 5), 2, []), (1141, (.ifCond .ne 15), 3, [1156]), (1144, (.aload_n 3), 1, []), (1145, (.iconst 0), 1, []), (1146, .laload, 1, []), (1147, (.iload 6), 2, []), (1149, .i2l, 1, []), (1150, .lcmp, 1, []), (1151, (.ifCond .eq 5), 3, [1156]), (1154, (.iconst 0), 1, []), (1155, .ireturn, 1, []), (1156, (.goto 425), 3, [1581]), (1159, (.aload_n 1), 1, []), (1160, (.aload_n 0), 1, []), (1161, (.iload 4), 2, []), (1163, (.iconst 1), 1, []), (1164, .iadd, 1, []), (1165, .iaload, 1, []), (1166, (.aload_n 0), 1, []), (1167, (.iload 4), 2, []), (1169, (.iconst 2), 1, []), (1170, .iadd, 1, []), (1171, .iaload, 1, []), (1172, (.aload_n 3), 1, []), (1173, (.invokestatic 135), 3, [1, 4, 74, 4, 75, 1, 0, 4, 76]), (1176, (.istore 5), 2, []), (1178, (.aload_n 2), 1, []), (1179, (.aload_n 0), 1, []), (1180, (.iload 4), 2, []), (1182, (.iconst 1), 1, []), (1183, .iadd, 1, []), (1184, .iaload, 1, []), (1185, (.aload_n 0), 1, []), (1186, (.iload 4), 2, []), (1188, (.iconst 2), 1, []), (1189, .iadd, 1, []), (1190, .iaload, 1, []), (1191, (.invokevirtual 137), 3, [5, 165, 5, 166, 1, 10, 5, 168, 5, 167]), (1194, (.istore 6), 2, []), (1196, (.aload_n 2), 1, []), (1197, (.invokevirtual 88), 3, [4, 167, 4, 168, 1, 10, 4, 170, 4, 169]), (1200, (.iload 5), 2, []), (1202, (.if_icmp .eq 5), 3, [1207]), (1205, (.iconst 0), 1, []), (1206, .ireturn, 1, []), (1207, (.iload 5), 2, []), (1209, (.ifCond .ne 15), 3, [1224]), (1212, (.aload_n 3), 1, []), (1213, (.iconst 0), 1, []), (1214, .laload, 1, []), (1215, (.iload 6), 2, []), (1217, .i2l, 1, []), (1218, .lcmp, 1, []), (1219, (.ifCond .eq 5), 3, [1224]), (1222, (.iconst 0), 1, []), (1223, .ireturn, 1, []), (1224, (.goto 357), 3, [1581]), (1227, (.aload_n 1), 1, []), (1228, (.aload_n 0), 1, []), (1229, (.iload 4), 2, []), (1231, (.iconst 1), 1, []), (1232, .iadd, 1, []), (1233, .iaload, 1, []), (1234, (.aload_n 3), 1, []), (1235, (.invokestatic 138), 3, [1, 4, 81, 4, 82, 1, 0, 4, 83]), (1238, (.istore 5), 2, []), (1240, (.aload_n 2), 1, []), (1241, (.aload_n 0), 1, []), (1242, (.iload 4), 2, []), (1244, (.iconst 1), 1, []), (1245, .iadd, 1, []), (1246, .iaload, 1, []), (1247, (.invokevirtual 140), 3, [5, 173, 5, 174, 1, 10, 5, 176, 5, 175]), (1250, (.istore 6), 2, []), (1252, (.aload_n 2), 1, []), (1253, (.invokevirtual 88), 3, [4, 167, 4, 168, 1, 10, 4, 170, 4, 169]), (1256, (.iload 5), 2, []), (1258, (.if_icmp .eq 5), 3, [1263]), (1261, (.iconst 0), 1, []), (1262, .ireturn, 1, []), (1263, (.iload 5), 2, []), (1265, (.ifCond .ne 15), 3, [1280]), (1268, (.aload_n 3), 1, []), (1269, (.iconst 0), 1, []), (1270, .laload, 1, []), (1271, (.iload 6), 2, []), (1273, .i2l, 1, []), (1274, .lcmp, 1, []), (1275, (.ifCond .eq 5), 3, [1280]), (1278, (.iconst 0), 1, []), (1279, .ireturn, 1, []), (1280, (.goto 301), 3, [1581]), (1283, (.aload_n 1), 1, []), (1284, (.aload_n 0), 1, []), (1285, (.iload 4), 2, []), (1287, (.iconst 1), 1, []), (1288, .iadd, 1, []), (1289, .iaload, 1, []), (1290, (.aload_n 0), 1, []), (1291, (.iload 4), 2, []), (1293, (.iconst 2), 1, []), (1294, .iadd, 1, []), (1295, .iaload, 1, []), (1296, (.aload_n 0), 1, []), (1297, (.iload 4), 2, []), (1299, (.iconst 3), 1, []), (1300, .iadd, 1, []), (1301, .iaload, 1, []), (1302, (.aload_n 3), 1, []), (1303, (.invokestatic 141), 3, [1, 4, 88, 4, 89, 1, 0, 4, 90]), (1306, (.istore 5), 2, []), (1308, (.aload_n 2), 1, []), (1309, (.aload_n 0), 1, []), (1310, (.iload 4), 2, []), (1312, (.iconst 1), 1, []), (1313, .iadd, 1, []), (1314, .iaload, 1, []), (1315, (.aload_n 0), 1, []), (1316, (.iload 4), 2, []), (1318, (.iconst 2), 1, []), (1319, .iadd, 1, []), (1320, .iaload, 1, []), (1321, (.aload_n 0), 1, []), (1322, (.iload 4), 2, []), (1324, (.iconst 3), 1, []), (1325, .iadd, 1, []), (1326, .iaload, 1, []), (1327, (.invokevirtual 143), 3, [5, 181, 5, 182, 1, 10, 5, 184, 5, 183]), (1330, (.istore 6), 2, []), (1332, (.aload_n 2), 1, []), (1333, (.invokevirtual 88), 3, [4, 167, 4, 168, 1, 10, 4, 170, 4, 169]), (1336, (.iload 5), 2, []), (1338, (.if_icmp .eq 5), 3, [1343]), (1341, (.iconst 0), 1, []), (1342, .ireturn, 1, []), (1343, (.iload 5), 2, []), (1345, (.ifCond .ne 15), 3, [1360]), (1348, (.aload_n 3), 1, []), (1349, (.iconst 0), 1, []), (1350, .laload, 1, []), (1351, (.iload 6), 2, []), (1353, .i2l, 1, []), (1354, .lcmp, 1, []), (1355, (.ifCond .eq 5), 3, [1360]), (1358, (.iconst 0), 1, []), (1359, .ireturn, 1, []), (1360, (.goto 221), 3, [1581]), (1363, (.aload_n 1), 1, []), (1364, (.aload_n 0), 1, []), (1365, (.iload 4), 2, []), (1367, (.iconst 1), 1, []), (1368, .iadd, 1, []), (1369, .iaload, 1, []), (1370, (.aload_n 0), 1, []), (1371, (.iload 4), 2, []), (1373, (.iconst 2), 1, []), (1374, .iadd, 1, []), (1375, .iaload, 1, []), (1376, (.aload_n 0), 1, []), (1377, (.iload 4), 2, []), (1379, (.iconst 3), 1, []), (1380, .iadd, 1, []), (1381, .iaload, 1, []), (1382, (.aload_n 0), 1, []), (1383, (.iload 4), 2, []), (1385, (.iconst 4), 1, []), (1386, .iadd, 1, []), (1387, .iaload, 1, []), (1388, (.aload_n 3), 1, []), (1389, (.invokestatic 144), 3, [1, 4, 99, 4, 100, 1, 0, 4, 101]), (1392, (.istore 5), 2, []), (1394, (.aload_n 2), 1, []), (1395, (.aload_n 0), 1, []), (1396, (.iload 4), 2, []), (1398, (.iconst 1), 1, []), (1399, .iadd, 1, []), (1400, .iaload, 1, []), (1401, (.aload_n 0), 1, []), (1402, (.iload 4), 2, []), (1404, (.iconst 2), 1, []), (1405, .iadd, 1, []), (1406, .iaload, 1, []), (1407, (.aload_n 0), 1, []), (1408, (.iload 4), 2, []), (1410, (.iconst 3), 1, []), (1411, .iadd, 1, []), (1412, .iaload, 1, []), (1413, (.aload_n 0), 1, []), (1414, (.iload 4), 2, []), (1416, (.iconst 4), 1, []), (1417, .iadd, 1, []), (1418, .iaload, 1, []), (1419, (.invokevirtual 146), 3, [5, 197, 5, 198, 1, 10, 5, 200, 5, 199]), (1422, (.istore 6), 2, []), (1424, (.aload_n 2), 1, []), (1425, (.invokevirtual 88), 3, [4, 167, 4, 168, 1, 10, 4, 170, 4, 169]), (1428, (.iload 5), 2, []), (1430, (.if_icmp .eq 5), 3, [1435]), (1433, (.iconst 0), 1, []), (1434, .ireturn, 1, []), (1435, (.iload 5), 2, []), (1437, (.ifCond .ne 15), 3, [1452]), (1440, (.aload_n 3), 1, []), (1441, (.iconst 0), 1, []), (1442, .laload, 1, []), (1443, (.iload 6), 2, []), (1445, .i2l, 1, []), (1446, .lcmp, 1, []), (1447, (.ifCond .eq 5), 3, [1452]), (1450, (.iconst 0), 1, []), (1451, .ireturn, 1, []), (1452, (.goto 129), 3, [1581]), (1455, (.aload_n 1), 1, []), (1456, (.aload_n 0), 1, []), (1457, (.iload 4), 2, []), (1459, (.iconst 1), 1, []), (1460, .iadd, 1, []), (1461, .iaload, 1, []), (1462, (.aload_n 0), 1, []), (1463, (.iload 4), 2, []), (1465, (.iconst 2), 1, []), (1466, .iadd, 1, []), (1467, .iaload, 1, []), (1468, (.aload_n 3), 1, []), (1469, (.invokestatic 147), 3, [1, 4, 106, 4, 107, 1, 0, 4, 108]), (1472, (.istore 5), 2, []), (1474, (.aload_n 2), 1, []), (1475, (.aload_n 0), 1, []), (1476, (.iload 4), 2, []), (1478, (.iconst 1), 1, []), (1479, .iadd, 1, []), (1480, .iaload, 1, []), (1481, (.aload_n 0), 1, []), (1482, (.iload 4), 2, []), (1484, (.iconst 2), 1, []), (1485, .iadd, 1, []), (1486, .iaload, 1, []), (1487, (.invokevirtual 149), 3, [5, 205, 5, 206, 1, 10, 5, 208, 5, 207]), (1490, (.istore 6), 2, []), (1492, (.aload_n 2), 1, []), (1493, (.invokevirtual 88), 3, [4, 167, 4, 168, 1, 10, 4, 170, 4, 169]), (1496, (.iload 5), 2, []), (1498, (.if_icmp .eq 5), 3, [1503]), (1501, (.iconst 0), 1, []), (1502, .ireturn, 1, []), (1503, (.iload 5), 2, []), (1505, (.ifCond .ne 15), 3, [1520]), (1508, (.aload_n 3), 1, []), (1509, (.iconst 0), 1, []), (1510, .laload, 1, []), (1511, (.iload 6), 2, []), (1513, .i2l, 1, []), (1514, .lcmp, 1, []), (1515, (.ifCond .eq 5), 3, [1520]), (1518, (.iconst 0), 1, []), (1519, .ireturn, 1, []), (1520, (.goto 61), 3, [1581]), (1523, (.aload_n 1), 1, []), (1524, (.aload_n 3), 1, []), (1525, (.invokestatic 150), 3, [1, 4, 113, 4, 114, 1, 0, 4, 115]), (1528, (.istore 5), 2, []), (1530, (.aload_n 2), 1, []), (1531, (.invokevirtual 153), 3, [5, 209, 5, 210, 1, 10, 5, 212, 5, 211]), (1534, (.istore 6), 2, []), (1536, (.aload_n 2), 1, []), (1537, (.invokevirtual 88), 3, [4, 167, 4, 168, 1, 10, 4, 170, 4, 169]), (1540, (.iload 5), 2, []), (1542, (.if_icmp .eq 5), 3, [1547]), (1545, (.iconst 0), 1, []), (1546, .ireturn, 1, []), (1547, (.iload 5), 2, []), (1549, (.ifCond .ne 15), 3, [1564]), (1552, (.aload_n 3), 1, []), (1553, (.iconst 0), 1, []), (1554, .laload, 1, []), (1555, (.iload 6), 2, []), (1557, .i2l, 1, []), (1558, .lcmp, 1, []), (1559, (.ifCond .eq 5), 3, [1564]), (1562, (.iconst 0), 1, []), (1563, .ireturn, 1, []), (1564, (.goto 17), 3, [1581]), (1567, (.aload_n 1), 1, []), (1568, (.invokevirtual 154), 3, [2, 32, 2, 33, 1, 1, 2, 35, 2, 34]), (1571, (.aload_n 2), 1, []), (1572, (.invokevirtual 158), 3, [5, 213, 5, 214, 1, 10, 5, 216, 5, 215]), (1575, .lcmp, 1, []), (1576, (.ifCond .eq 5), 3, [1581]), (1579, (.iconst 0), 1, []), (1580, .ireturn, 1, []), (1581, (.iinc 4 6), 3, []), (1584, (.goto (-1561)), 3, [23]), (1587, (.iconst 1), 1, []), (1588, .ireturn, 1, [])]
end
section
/-! For the methods without loops; numbers. -/
def noI : Nat → Nat → LC → List TV → MM → Nat → Nat → Prop := fun _ _ _ _ _ _ _ => False
def noK : Nat → LC → List TV → MM → Nat → Nat → Prop := fun pc lc st μ ce sl => ∃ n lc', subL lc' lc ∧ noI n pc lc' st μ ce sl
/-- the entry of a method without loops -/
def VC0 (ot : OT) (ci : CI) (code : List Ent) (ct : List (Nat × CI)) (hn : List (Nat × Nat × Nat × Nat)) (rz : Bool) (fuel : Nat) (As : List TV) (μ : MM) (K : OC → MM → Prop) : Prop :=
  vc KT ot code ct hn (ci.2.2.2.2.2.1.2.1, ci.2.2.2.2.2.1.2.2.1) rz μ.2.2.2.2 (exO ci.2.2.2.2.2.2.1 As) [] noK K fuel code (padL ci.2.2.1 (entL As)) [] μ 0 0
theorem ms0_of {g : GPT} {ot : OT} {l : Launch} (hl : l.stackTraces = false) {ci : CI} (own : String) (code : List Ent) (ct : List (Nat × CI)) (hn : List (Nat × Nat × Nat × Nat)) (rz ini : Bool) (fuel : Nat)
    (hck : chkM ci own code ct hn rz ini = true) (hM : ∀ q ∈ ct, MS g ot l q.2)
    (h : ∀ (As : List TV) (μ : MM) (K : OC → MM → Prop), ci.2.2.2.2.2.2.2.2 As μ K → (entL As).length ≤ ci.2.2.1 ∧ VC0 ot ci code ct hn rz fuel As μ K) : MS g ot l ci :=
  ms_of hl own code ct hn rz ini [] fuel hck hM fun As μ K hs => ⟨(h As μ K hs).1, noI, (h As μ K hs).2, fun _ _ _ _ _ _ _ h => h.elim⟩
theorem iL (n : Nat) : Int32.ofInt (no_index (OfNat.ofNat n : Int)) = nI n := rfl
theorem nI_mul (a b : Nat) : nI a * nI b = nI (a * b) := (Int32.ofNat_mul a b).symm
theorem nI_add1 (a : Nat) : nI a + 1 = nI (a + 1) := (nI_succ a).symm
theorem nI_inj {a b : Nat} (ha : a < 2 ^ 31) (hb : b < 2 ^ 31) (h : nI a = nI b) : a = b := by
  have h1 := nI_toInt ha
  have h2 := nI_toInt hb
  rw [h] at h1
  omega
theorem nI_lt_iff {a b : Nat} (ha : a < 2 ^ 31) (hb : b < 2 ^ 31) : nI a < nI b ↔ a < b := by
  rw [Int32.lt_iff_toInt_lt, nI_toInt ha, nI_toInt hb]
  omega
theorem nI_le_iff {a b : Nat} (ha : a < 2 ^ 31) (hb : b < 2 ^ 31) : nI a ≤ nI b ↔ a ≤ b := by
  rw [Int32.le_iff_toInt_le, nI_toInt ha, nI_toInt hb]
  omega
theorem nI_eq_iff {a b : Nat} (ha : a < 2 ^ 31) (hb : b < 2 ^ 31) : nI a = nI b ↔ a = b := ⟨nI_inj ha hb, fun h => by rw [h]⟩
def sp_X10_cell : SPc := fun As μ K => match As with
  | [.inl c, .inl w] => ∃ i j : Nat, c = nI i ∧ w = nI j ∧ K (.inl (some (.inl (nI (51 + 2406 * i + j))))) μ
  | _ => False
def ct_X10_cell : List (Nat × CI) := []
def ci_X10_cell : CI := (yX10_cell, cX10_cell, 2, some .int, 2, (0, 0, 0, 0), 0, [], sp_X10_cell)
set_option maxRecDepth 100000 in
theorem ck_X10_cell : chkM ci_X10_cell RX10 co_X10_cell ct_X10_cell [] false false = true := by decide +kernel
set_option maxHeartbeats 4000000 in
set_option maxRecDepth 100000 in
theorem ms_X10_cell {g : GPT} {ot : OT} {l : Launch} (hl : l.stackTraces = false) : MS g ot l ci_X10_cell := by
  refine ms0_of hl RX10 co_X10_cell ct_X10_cell [] false false 13 ck_X10_cell (fun _ h => nomatch h) ?_
  intro As μ K h
  simp only [ci_X10_cell, sp_X10_cell] at h
  split at h
  · obtain ⟨i, j, rfl, rfl, h⟩ := h
    refine ⟨Nat.le_of_ble_eq_true rfl, ?_⟩
    show K _ _

    simp only [iL, nI_add, nI_mul]
    exact h
  · exact h.elim
def sp_X10_of : SPc := fun As μ K => match As with
  | [.inr (.inr (20, r)), .inl c, .inl w] => ∃ i j : Nat, c = nI i ∧ w = nI j ∧ 51 + 2406 * i + j < 7269 ∧ K (.inl (some (.inl (μ.1 (r + 1) (51 + 2406 * i + j))))) μ
  | _ => False
def ct_X10_of : List (Nat × CI) := [(77, ci_X10_cell)]
def ci_X10_of : CI := (yX10_of, cX10_of, 3, some .int, 3, (1, 0, 0, 21), 19, [], sp_X10_of)
set_option maxRecDepth 100000 in
theorem ck_X10_of : chkM ci_X10_of RX10 co_X10_of ct_X10_of [] false false = true := by decide +kernel
set_option maxHeartbeats 4000000 in
set_option maxRecDepth 100000 in
theorem ms_X10_of {g : GPT} {ot : OT} {l : Launch} (hl : l.stackTraces = false) : MS g ot l ci_X10_of := by
  refine ms0_of hl RX10 co_X10_of ct_X10_of [] false false 12 ck_X10_of (List.forall_mem_cons.mpr ⟨ms_X10_cell hl, fun _ h => nomatch h⟩) ?_
  intro As μ K h
  simp only [ci_X10_of, sp_X10_of] at h
  split at h
  · rename_i r c w
    obtain ⟨i, j, rfl, rfl, hb, h⟩ := h
    refine ⟨Nat.le_of_ble_eq_true rfl, ?_⟩
    refine ⟨i, j, rfl, rfl, 51 + 2406 * i + j, rfl, hb, ?_⟩
    exact h
  · exact h.elim
end
section
/-! THE REFERENCE, its small methods. Its object is r (kind 20), its row m lies at r + 1. -/
/-- a whole row changed -/
def stF (F : Nat → Nat → Int32) (a : Nat) (f : Nat → Int32) : Nat → Nat → Int32 := fun b => if b = a then f else F b
theorem up2_stF (F : Nat → Nat → Int32) (a j : Nat) (x : Int32) : up2 F a j x = stF F a (upd (F a) j x) := by
  funext b k
  unfold up2 stF upd
  by_cases hb : b = a
  · subst hb; simp
  · simp [hb]
theorem stF_at (F : Nat → Nat → Int32) (a : Nat) (f : Nat → Int32) : stF F a f a = f := by simp [stF]
theorem stF_ne (F : Nat → Nat → Int32) {a b : Nat} (f : Nat → Int32) (h : b ≠ a) : stF F a f b = F b := by simp [stF, h]
theorem stF_stF (F : Nat → Nat → Int32) (a : Nat) (f g : Nat → Int32) : stF (stF F a f) a g = stF F a g := by
  funext b
  unfold stF
  by_cases hb : b = a <;> simp [hb]
theorem stF_self (F : Nat → Nat → Int32) (a : Nat) : stF F a (F a) = F := by
  funext b
  unfold stF
  by_cases hb : b = a <;> simp [hb]
def iB (p : Prop) [Decidable p] : Int32 := if p then 1 else 0
theorem iB_eq0 (p : Prop) [Decidable p] : iB p = 0 ↔ ¬ p := by unfold iB; by_cases h : p <;> simp [h]
theorem iB_01 (p : Prop) [Decidable p] : iB p = 0 ∨ iB p = 1 := by unfold iB; by_cases h : p <;> simp [h]
theorem iM1 : Int32.ofInt (-1) = -1 := rfl
theorem iL0 : Int32.ofInt 0 = 0 := rfl
theorem iL1 : Int32.ofInt 1 = 1 := rfl
theorem nI_toI (n : Nat) (h : n < 2 ^ 31) : (nI n).toInt = (n : Int) := nI_toInt h
theorem nI_mod {a b : Nat} (ha : a < 2 ^ 31) (hb : b < 2 ^ 31) : nI a % nI b = nI (a % b) := by
  apply Int32.toInt_inj.mp
  have h1 : a % b < 2 ^ 31 := Nat.lt_of_le_of_lt (Nat.mod_le _ _) ha
  rw [Int32.toInt_mod, nI_toInt ha, nI_toInt hb, nI_toInt h1]
  exact (Int.ofNat_tmod a b).symm
theorem nI_div {a b : Nat} (ha : a < 2 ^ 31) (hb : b < 2 ^ 31) : nI a / nI b = nI (a / b) := by
  apply Int32.toInt_inj.mp
  have h1 : a / b < 2 ^ 31 := Nat.lt_of_le_of_lt (Nat.div_le_self _ _) ha
  rw [Int32.toInt_div_of_ne_left _ _ (by
    intro h
    have := congrArg Int32.toInt h
    rw [nI_toInt ha] at this
    have e : (Int32.minValue).toInt = -2147483648 := by decide
    rw [e] at this
    omega), nI_toInt ha, nI_toInt hb, nI_toInt h1]
  exact (Int.ofNat_tdiv a b).symm
theorem nI_ne {b : Nat} (h0 : 0 < b) (hb : b < 2 ^ 31) : ¬ nI b = 0 := nI_ne0 h0 hb
/-- the parts of a state's number -/
def prt (n w : Nat) : Nat := match w with
  | 0 => n % 32
  | 1 => n / 32 % 32
  | 2 => n / 1024 % 4
  | _ => n / 4096
def pkN (x y k h : Nat) : Nat := x + 32 * (y + 32 * (k + 4 * h))
theorem prt_pk {x y k h : Nat} (hx : x < 32) (hy : y < 32) (hk : k < 4) : prt (pkN x y k h) 0 = x ∧ prt (pkN x y k h) 1 = y ∧ prt (pkN x y k h) 2 = k ∧ prt (pkN x y k h) 3 = h := by
  simp only [prt, pkN]
  refine ⟨by omega, by omega, by omega, by omega⟩
theorem pk_prt (n : Nat) : pkN (prt n 0) (prt n 1) (prt n 2) (prt n 3) = n := by
  simp only [prt, pkN]
  omega
theorem z_nI : (0 : Int32) = nI 0 := nI_0.symm
theorem inc_tv (i : Nat) : (some (.inl (nI i + Int32.ofInt 1)) : Option TV) = some (.inl (nI (i + 1))) := by
  rw [nI_succ]
  rfl
def sp_X10_thrown : SPc := fun As μ K => match As with
  | [.inr (.inr (20, r))] => K (.inl (some (.inl (μ.1 r 5)))) μ
  | _ => False
def ct_X10_thrown : List (Nat × CI) := []
def ci_X10_thrown : CI := (yX10_thrown, cX10_thrown, 1, some .int, 1, (0, 0, 0, 0), 19, [], sp_X10_thrown)
set_option maxRecDepth 100000 in
theorem ck_X10_thrown : chkM ci_X10_thrown RX10 co_X10_thrown ct_X10_thrown [] false false = true := by decide +kernel
set_option maxHeartbeats 4000000 in
set_option maxRecDepth 100000 in
theorem ms_X10_thrown {g : GPT} {ot : OT} {l : Launch} (hl : l.stackTraces = false) : MS g ot l ci_X10_thrown := by
  refine ms0_of hl RX10 co_X10_thrown ct_X10_thrown [] false false 8 ck_X10_thrown (fun _ h => nomatch h) ?_
  intro As μ K h
  simp only [ci_X10_thrown, sp_X10_thrown] at h
  split at h
  · exact ⟨Nat.le_of_ble_eq_true rfl, h⟩
  · exact h.elim
def sp_X10_fails : SPc := fun As μ K => match As with
  | [.inr (.inr (20, r)), .inl x] => K (.inl (some (.inl 0))) (up2 μ.1 r 5 x, μ.2)
  | _ => False
def ct_X10_fails : List (Nat × CI) := []
def ci_X10_fails : CI := (yX10_fails, cX10_fails, 2, some .int, 2, (0, 0, 0, 0), 19, [], sp_X10_fails)
set_option maxRecDepth 100000 in
theorem ck_X10_fails : chkM ci_X10_fails RX10 co_X10_fails ct_X10_fails [] false false = true := by decide +kernel
set_option maxHeartbeats 4000000 in
set_option maxRecDepth 100000 in
theorem ms_X10_fails {g : GPT} {ot : OT} {l : Launch} (hl : l.stackTraces = false) : MS g ot l ci_X10_fails := by
  refine ms0_of hl RX10 co_X10_fails ct_X10_fails [] false false 10 ck_X10_fails (fun _ h => nomatch h) ?_
  intro As μ K h
  simp only [ci_X10_fails, sp_X10_fails] at h
  split at h
  · exact ⟨Nat.le_of_ble_eq_true rfl, h⟩
  · exact h.elim
def sp_X10_in : SPc := fun As μ K => match As with
  | [.inl v, .inl a, .inl b] => K (.inl (some (.inl (iB (a ≤ v ∧ v ≤ b))))) μ
  | _ => False
def ct_X10_in : List (Nat × CI) := []
def ci_X10_in : CI := (yX10_in, cX10_in, 3, some .boolean, 3, (0, 0, 0, 0), 0, [], sp_X10_in)
set_option maxRecDepth 100000 in
theorem ck_X10_in : chkM ci_X10_in RX10 co_X10_in ct_X10_in [] true false = true := by decide +kernel
set_option maxHeartbeats 4000000 in
set_option maxRecDepth 100000 in
theorem ms_X10_in {g : GPT} {ot : OT} {l : Launch} (hl : l.stackTraces = false) : MS g ot l ci_X10_in := by
  refine ms0_of hl RX10 co_X10_in ct_X10_in [] true false 15 ck_X10_in (fun _ h => nomatch h) ?_
  intro As μ K h
  simp only [ci_X10_in, sp_X10_in] at h
  split at h
  · rename_i v a b
    refine ⟨Nat.le_of_ble_eq_true rfl, fun h1 => ?_, fun h1 => ⟨fun h2 => ?_, fun h2 => ?_⟩⟩
    · have h1 : v < a := h1
      have e : iB (a ≤ v ∧ v ≤ b) = 0 := (iB_eq0 _).mpr fun q => Int32.not_le.mpr h1 q.1
      rw [e] at h
      exact ⟨Or.inl rfl, h⟩
    · have h2 : b < v := h2
      have e : iB (a ≤ v ∧ v ≤ b) = 0 := (iB_eq0 _).mpr fun q => Int32.not_le.mpr h2 q.2
      rw [e] at h
      exact ⟨Or.inl rfl, h⟩
    · have h1 : ¬ v < a := h1
      have h2 : ¬ b < v := h2
      have e : iB (a ≤ v ∧ v ≤ b) = 1 := if_pos ⟨Int32.not_lt.mp h1, Int32.not_lt.mp h2⟩
      rw [e] at h
      exact ⟨Or.inr rfl, h⟩
  · exact h.elim
def aI (x : Int32) : Int32 := if x < 0 then -x else x
def sp_X10_size : SPc := fun As μ K => match As with
  | [.inl v] => K (.inl (some (.inl (aI v)))) μ
  | _ => False
def ct_X10_size : List (Nat × CI) := []
def ci_X10_size : CI := (yX10_size, cX10_size, 1, some .int, 1, (0, 0, 0, 0), 0, [], sp_X10_size)
set_option maxRecDepth 100000 in
theorem ck_X10_size : chkM ci_X10_size RX10 co_X10_size ct_X10_size [] false false = true := by decide +kernel
set_option maxHeartbeats 4000000 in
set_option maxRecDepth 100000 in
theorem ms_X10_size {g : GPT} {ot : OT} {l : Launch} (hl : l.stackTraces = false) : MS g ot l ci_X10_size := by
  refine ms0_of hl RX10 co_X10_size ct_X10_size [] false false 12 ck_X10_size (fun _ h => nomatch h) ?_
  intro As μ K h
  simp only [ci_X10_size, sp_X10_size] at h
  split at h
  · rename_i v
    refine ⟨Nat.le_of_ble_eq_true rfl, fun h1 => ?_, fun h1 => ?_⟩
    · have h1 : 0 ≤ v := h1
      have e : aI v = v := if_neg (Int32.not_lt.mpr h1)
      rw [e] at h
      exact h
    · have h1 : ¬ 0 ≤ v := h1
      have e : aI v = -v := if_pos (Int32.not_le.mp h1)
      rw [e] at h
      exact h
  · exact h.elim
def sp_X10_copyAll : SPc := fun As μ K => match As with
  | [.inr (.inr (5, a)), .inr (.inr (5, b))] => K (.inl none) (stF μ.1 b (fun k => if k < 7269 then μ.1 a k else μ.1 b k), μ.2)
  | _ => False
def ct_X10_copyAll : List (Nat × CI) := []
def ci_X10_copyAll : CI := (yX10_copyAll, cX10_copyAll, 3, none, 2, (0, 0, 0, 0), 0, [], sp_X10_copyAll)
set_option maxRecDepth 100000 in
theorem ck_X10_copyAll : chkM ci_X10_copyAll RX10 co_X10_copyAll ct_X10_copyAll [] false false = true := by decide +kernel
set_option maxHeartbeats 4000000 in
set_option maxRecDepth 100000 in
theorem ms_X10_copyAll {g : GPT} {ot : OT} {l : Launch} (hl : l.stackTraces = false) : MS g ot l ci_X10_copyAll := by
  refine ms_of hl RX10 co_X10_copyAll ct_X10_copyAll [] false false [2] 19 ck_X10_copyAll (fun _ h => nomatch h) ?_
  intro As μ K h
  simp only [ci_X10_copyAll, sp_X10_copyAll] at h
  split at h
  · rename_i a b
    refine ⟨Nat.le_of_ble_eq_true rfl, fun n pc lc st μ' ce sl => ∃ i, i ≤ 7269 ∧ n = 7269 - i ∧ pc = 2 ∧ lc = [some (.inr (.inr (5, a))), some (.inr (.inr (5, b))), some (.inl (nI i))] ∧ st = [] ∧ μ' = (stF μ.1 b (fun k => if k < i then μ.1 a k else μ.1 b k), μ.2) ∧ ce = 0 ∧ sl = 0, ?_, ?_⟩
    · refine ⟨7269, [some (.inr (.inr (5, a))), some (.inr (.inr (5, b))), some (.inl (nI 0))], ⟨rfl, rfl, rfl, trivial⟩, 0, Nat.zero_le _, rfl, rfl, rfl, rfl, ?_, rfl, rfl⟩
      have e : (fun k => if k < 0 then μ.1 a k else μ.1 b k) = μ.1 b := by funext k; simp
      rw [e, stF_self]
    · rintro n pc lc st μ' ce sl ⟨i, hi, rfl, rfl, rfl, rfl, rfl, rfl, rfl⟩
      refine ⟨fun h1 => ?_, fun h1 => ?_⟩
      · have h1 : nI 7269 ≤ nI i := h1
        rw [nI_le_iff (by omega) (by omega)] at h1
        have : i = 7269 := by omega
        subst this
        exact h
      · have h1 : ¬ nI 7269 ≤ nI i := h1
        rw [nI_le_iff (by omega) (by omega)] at h1
        refine ⟨i, rfl, by omega, i, rfl, by omega, ?_⟩
        refine ⟨7269 - (i + 1), [some (.inr (.inr (5, a))), some (.inr (.inr (5, b))), some (.inl (nI (i + 1)))], by omega, ⟨rfl, rfl, inc_tv i, trivial⟩, i + 1, by omega, rfl, rfl, rfl, rfl, ?_, rfl, rfl⟩
        · show (up2 _ _ _ _, _) = _
          simp only [up2_stF, stF_stF, stF_at]
          congr 2
          funext k
          have e2 : stF μ.1 b (fun k => if k < i then μ.1 a k else μ.1 b k) a i = μ.1 a i := by
            by_cases hab : a = b
            · subst hab
              rw [stF_at]
              simp
            · rw [stF_ne _ _ hab]
          rw [e2]
          unfold upd
          by_cases hk : k = i
          · subst hk
            simp
          · by_cases hk2 : k < i
            · simp only [if_neg hk, if_pos hk2]
              rw [if_pos (by omega)]
            · simp only [if_neg hk, if_neg hk2]
              rw [if_neg (by omega)]
  · exact h.elim
def sp_X10_packed : SPc := fun As μ K => match As with
  | [.inl x, .inl y, .inl k, .inl h] => ∃ a b c d : Nat, x = nI a ∧ y = nI b ∧ k = nI c ∧ h = nI d ∧ K (.inl (some (.inl (nI (pkN a b c d))))) μ
  | _ => False
def ct_X10_packed : List (Nat × CI) := []
def ci_X10_packed : CI := (yX10_packed, cX10_packed, 4, some .int, 4, (0, 0, 0, 0), 0, [], sp_X10_packed)
set_option maxRecDepth 100000 in
theorem ck_X10_packed : chkM ci_X10_packed RX10 co_X10_packed ct_X10_packed [] false false = true := by decide +kernel
set_option maxHeartbeats 4000000 in
set_option maxRecDepth 100000 in
theorem ms_X10_packed {g : GPT} {ot : OT} {l : Launch} (hl : l.stackTraces = false) : MS g ot l ci_X10_packed := by
  refine ms0_of hl RX10 co_X10_packed ct_X10_packed [] false false 19 ck_X10_packed (fun _ h => nomatch h) ?_
  intro As μ K h
  simp only [ci_X10_packed, sp_X10_packed] at h
  split at h
  · obtain ⟨a, b, c, d, rfl, rfl, rfl, rfl, h⟩ := h
    refine ⟨Nat.le_of_ble_eq_true rfl, ?_⟩
    show K _ _
    simp only [iL, nI_add, nI_mul]
    exact h
  · exact h.elim
def sp_X10_part : SPc := fun As μ K => match As with
  | [.inl s, .inl w] => ∃ n k : Nat, s = nI n ∧ w = nI k ∧ n < 524288 ∧ k < 4 ∧ K (.inl (some (.inl (nI (prt n k))))) μ
  | _ => False
def ct_X10_part : List (Nat × CI) := []
def ci_X10_part : CI := (yX10_part, cX10_part, 2, some .int, 2, (0, 0, 0, 0), 0, [], sp_X10_part)
set_option maxRecDepth 100000 in
theorem ck_X10_part : chkM ci_X10_part RX10 co_X10_part ct_X10_part [] false false = true := by decide +kernel
set_option maxHeartbeats 4000000 in
set_option maxRecDepth 100000 in
theorem ms_X10_part {g : GPT} {ot : OT} {l : Launch} (hl : l.stackTraces = false) : MS g ot l ci_X10_part := by
  refine ms0_of hl RX10 co_X10_part ct_X10_part [] false false 33 ck_X10_part (fun _ h => nomatch h) ?_
  intro As μ K h
  simp only [ci_X10_part, sp_X10_part] at h
  split at h
  · obtain ⟨n, k, rfl, rfl, hn, hk, h⟩ := h
    refine ⟨Nat.le_of_ble_eq_true rfl, fun h1 => ?_, fun h1 => ?_⟩
    · have h1 : ¬ nI k = nI 0 := h1
      rw [nI_eq_iff (by omega) (by omega)] at h1
      refine ⟨fun h2 => ?_, fun h2 => ?_⟩
      · have h2 : ¬ nI k = nI 1 := h2
        rw [nI_eq_iff (by omega) (by omega)] at h2
        refine ⟨fun h3 => ?_, fun h3 => ?_⟩
        · have h3 : ¬ nI k = nI 2 := h3
          rw [nI_eq_iff (by omega) (by omega)] at h3
          refine ⟨nI_ne (b := 4096) (by omega) (by omega), ?_⟩
          show K (.inl (some (.inl (nI n / nI 4096)))) μ
          rw [nI_div (by omega) (by omega)]
          obtain rfl : k = 3 := by omega
          exact h
        · have h3 : ¬ ¬ nI k = nI 2 := h3
          rw [nI_eq_iff (by omega) (by omega)] at h3
          refine ⟨nI_ne (b := 1024) (by omega) (by omega), nI_ne (b := 4) (by omega) (by omega), ?_⟩
          show K (.inl (some (.inl (nI n / nI 1024 % nI 4)))) μ
          rw [nI_div (by omega) (by omega), nI_mod (by omega) (by omega)]
          obtain rfl : k = 2 := by omega
          exact h
      · have h2 : ¬ ¬ nI k = nI 1 := h2
        rw [nI_eq_iff (by omega) (by omega)] at h2
        refine ⟨nI_ne (b := 32) (by omega) (by omega), nI_ne (b := 32) (by omega) (by omega), ?_⟩
        show K (.inl (some (.inl (nI n / nI 32 % nI 32)))) μ
        rw [nI_div (by omega) (by omega), nI_mod (by omega) (by omega)]
        obtain rfl : k = 1 := by omega
        exact h
    · have h1 : ¬ ¬ nI k = nI 0 := h1
      rw [nI_eq_iff (by omega) (by omega)] at h1
      refine ⟨nI_ne (b := 32) (by omega) (by omega), ?_⟩
      show K (.inl (some (.inl (nI n % nI 32)))) μ
      rw [nI_mod (by omega) (by omega)]
      obtain rfl : k = 0 := by omega
      exact h
  · exact h.elim
end
section
/-! THE REFERENCE, its methods on states and on a client's cells. -/
/-- a state: none, or a number -/
def sOK (s : Int32) : Prop := s = -1 ∨ ∃ n, n < 524288 ∧ s = nI n
def sN (s : Int32) : Nat := s.toNatClampNeg
theorem sN_nI {n : Nat} (h : n < 524288) : sN (nI n) = n := nI_clamp (by omega)
theorem nI_ne_m1 {n : Nat} (h : n < 2 ^ 31) : ¬ nI n = -1 := by
  intro q
  have h1 := nI_toInt h
  rw [q] at h1
  have : (-1 : Int32).toInt = -1 := by decide
  rw [this] at h1
  omega
theorem sOK_n {s : Int32} (h : sOK s) (hs : ¬ s = -1) : sN s < 524288 ∧ s = nI (sN s) := by
  rcases h with h | ⟨n, h1, rfl⟩
  · exact absurd h hs
  · rw [sN_nI h1]
    exact ⟨h1, rfl⟩
def pz (s : Int32) (k : Nat) : Nat := if s = -1 then 0 else prt (sN s) k
def sp_X10_partOrZero : SPc := fun As μ K => match As with
  | [.inl s, .inl w] => ∃ k : Nat, w = nI k ∧ k < 4 ∧ sOK s ∧ K (.inl (some (.inl (nI (pz s k))))) μ
  | _ => False
def ct_X10_partOrZero : List (Nat × CI) := [(41, ci_X10_part)]
def ci_X10_partOrZero : CI := (yX10_partOrZero, cX10_partOrZero, 2, some .int, 2, (1, 0, 0, 21), 0, [], sp_X10_partOrZero)
set_option maxRecDepth 100000 in
theorem ck_X10_partOrZero : chkM ci_X10_partOrZero RX10 co_X10_partOrZero ct_X10_partOrZero [] false false = true := by decide +kernel
set_option maxHeartbeats 4000000 in
set_option maxRecDepth 100000 in
theorem ms_X10_partOrZero {g : GPT} {ot : OT} {l : Launch} (hl : l.stackTraces = false) : MS g ot l ci_X10_partOrZero := by
  refine ms0_of hl RX10 co_X10_partOrZero ct_X10_partOrZero [] false false 14 ck_X10_partOrZero (List.forall_mem_cons.mpr ⟨ms_X10_part hl, fun _ h => nomatch h⟩) ?_
  intro As μ K h
  simp only [ci_X10_partOrZero, sp_X10_partOrZero] at h
  split at h
  case h_2 => exact h.elim
  rename_i s w
  obtain ⟨k, rfl, hk, hs, h⟩ := h
  refine ⟨Nat.le_of_ble_eq_true rfl, fun h1 => ?_, fun h1 => ?_⟩
  · have h1 : ¬ s = -1 := h1
    obtain ⟨h2, h3⟩ := sOK_n hs h1
    refine ⟨sN s, k, h3, rfl, h2, hk, ?_⟩
    have e : pz s k = prt (sN s) k := if_neg h1
    rw [e] at h
    exact h
  · have h1 : ¬ ¬ s = -1 := h1
    have e : pz s k = 0 := if_pos (Classical.not_not.mp h1)
    rw [e] at h
    exact h
/-- the values in which two states differ -/
def mkR (a b : Nat) : Nat → Nat
  | 0 => 0
  | k + 1 => mkR a b k ||| (if prt a k = prt b k then 0 else 2 ^ k)
theorem mkR_lt (a b : Nat) : ∀ k, mkR a b k < 2 ^ k
  | 0 => by simp [mkR]
  | k + 1 => by
    have h := mkR_lt a b k
    unfold mkR
    refine Nat.or_lt_two_pow (Nat.lt_of_lt_of_le h (Nat.pow_le_pow_right (by omega) (Nat.le_succ k))) ?_
    split
    · exact Nat.two_pow_pos _
    · exact Nat.pow_lt_pow_right (by omega) (Nat.lt_succ_self k)
def mkN (a b : Nat) : Nat := mkR a b 4
theorem mkN_lt (a b : Nat) : mkN a b < 16 := mkR_lt a b 4
theorem prt_lt {n : Nat} (h : n < 524288) (k : Nat) : prt n k < 128 := by
  match k with
  | 0 => simp only [prt]; omega
  | 1 => simp only [prt]; omega
  | 2 => simp only [prt]; omega
  | k + 3 => simp only [prt]; omega
theorem nI_or {a b : Nat} (ha : a < 16) (hb : b < 16) : nI a ||| nI b = nI (a ||| b) := by
  have h : ∀ a, a < 16 → ∀ b, b < 16 → nI a ||| nI b = nI (a ||| b) := by decide +kernel
  exact h a ha b hb
theorem shl1 {k : Nat} (h : k < 5) : Int32.ofInt 1 <<< (nI k &&& 31) = nI (2 ^ k) := by
  have h2 : ∀ k, k < 5 → Int32.ofInt 1 <<< (nI k &&& 31) = nI (2 ^ k) := by decide +kernel
  exact h2 k h
def sp_X10_mask : SPc := fun As μ K => match As with
  | [.inl s, .inl t] => ∃ a b : Nat, s = nI a ∧ t = nI b ∧ a < 524288 ∧ b < 524288 ∧ K (.inl (some (.inl (nI (mkN a b))))) μ
  | _ => False
def ct_X10_mask : List (Nat × CI) := [(41, ci_X10_part)]
def ci_X10_mask : CI := (yX10_mask, cX10_mask, 4, some .int, 2, (1, 0, 0, 21), 0, [], sp_X10_mask)
set_option maxRecDepth 100000 in
theorem ck_X10_mask : chkM ci_X10_mask RX10 co_X10_mask ct_X10_mask [] false false = true := by decide +kernel
set_option maxHeartbeats 4000000 in
set_option maxRecDepth 100000 in
theorem ms_X10_mask {g : GPT} {ot : OT} {l : Launch} (hl : l.stackTraces = false) : MS g ot l ci_X10_mask := by
  refine ms_of hl RX10 co_X10_mask ct_X10_mask [] false false [4] 31 ck_X10_mask (List.forall_mem_cons.mpr ⟨ms_X10_part hl, fun _ h => nomatch h⟩) ?_
  intro As μ K h
  simp only [ci_X10_mask, sp_X10_mask] at h
  split at h
  case h_2 => exact h.elim
  obtain ⟨a, b, rfl, rfl, ha, hb, h⟩ := h
  refine ⟨Nat.le_of_ble_eq_true rfl, fun n pc lc st μ' ce sl => ∃ i, i ≤ 4 ∧ n = 4 - i ∧ pc = 4 ∧ lc = [some (.inl (nI a)), some (.inl (nI b)), some (.inl (nI (mkR a b i))), some (.inl (nI i))] ∧ st = [] ∧ μ' = μ ∧ ce = 0 ∧ sl = 0, ?_, ?_⟩
  · exact ⟨4, [some (.inl (nI a)), some (.inl (nI b)), some (.inl (nI 0)), some (.inl (nI 0))], ⟨rfl, rfl, rfl, rfl, trivial⟩, 0, Nat.zero_le _, rfl, rfl, rfl, rfl, rfl, rfl, rfl⟩
  · rintro n pc lc st μ' ce sl ⟨i, hi, rfl, rfl, rfl, rfl, rfl, rfl, rfl⟩
    refine ⟨fun h1 => ?_, fun h1 => ?_⟩
    · simp only [icP, ifP, iL, iM1] at h1
      try simp only [z_nI] at h1
      try simp only [nI_add, nI_mul] at h1
      first | rw [nI_le_iff (by omega) (by omega)] at h1 | rw [nI_lt_iff (by omega) (by omega)] at h1 | rw [nI_eq_iff (by omega) (by omega)] at h1
      obtain rfl : i = 4 := by omega
      exact h
    · simp only [icP, ifP, iL, iM1] at h1
      try simp only [z_nI] at h1
      try simp only [nI_add, nI_mul] at h1
      first | rw [nI_le_iff (by omega) (by omega)] at h1 | rw [nI_lt_iff (by omega) (by omega)] at h1 | rw [nI_eq_iff (by omega) (by omega)] at h1
      have hp := prt_lt ha i
      have hq := prt_lt hb i
      have hl := mkR_lt a b i
      have hl2 : 2 ^ i ≤ 2 ^ 3 := Nat.pow_le_pow_right (by omega) (by omega)
      refine ⟨a, i, rfl, rfl, ha, by omega, b, i, rfl, rfl, hb, by omega, fun h2 => ?_, fun h2 => ?_⟩
      · simp only [icP, ifP, iL, iM1] at h2
        try simp only [z_nI] at h2
        try simp only [nI_add, nI_mul] at h2
        first | rw [nI_le_iff (by omega) (by omega)] at h2 | rw [nI_lt_iff (by omega) (by omega)] at h2 | rw [nI_eq_iff (by omega) (by omega)] at h2
        refine ⟨4 - (i + 1), [some (.inl (nI a)), some (.inl (nI b)), some (.inl (nI (mkR a b (i + 1)))), some (.inl (nI (i + 1)))], by omega, ⟨rfl, rfl, ?_, inc_tv i, trivial⟩, i + 1, by omega, rfl, rfl, rfl, rfl, rfl, rfl, rfl⟩
        show (some (.inl (nI (mkR a b i) ||| (Int32.ofInt 1 <<< (nI i &&& 31)))) : Option TV) = _
        rw [shl1 (by omega), nI_or (by omega) (by omega)]
        simp only [mkR, if_neg h2]
      · simp only [icP, Classical.not_not] at h2
        rw [nI_eq_iff (by omega) (by omega)] at h2
        refine ⟨4 - (i + 1), [some (.inl (nI a)), some (.inl (nI b)), some (.inl (nI (mkR a b (i + 1)))), some (.inl (nI (i + 1)))], by omega, ⟨rfl, rfl, ?_, inc_tv i, trivial⟩, i + 1, by omega, rfl, rfl, rfl, rfl, rfl, rfl, rfl⟩
        show (some (.inl (nI (mkR a b i) ||| nI 0)) : Option TV) = _
        rw [nI_or (by omega) (by omega)]
        simp only [mkR, if_pos h2]
/-- a state with some values of another one -/
def mxN (a b m : Nat) : Nat := pkN (prt (if m % 2 = 0 then a else b) 0) (prt (if m / 2 % 2 = 0 then a else b) 1) (prt (if m / 4 % 2 = 0 then a else b) 2) (prt (if m / 8 % 2 = 0 then a else b) 3)
theorem mbit : ∀ m, m < 16 → ((nI m &&& Int32.ofInt 1 = 0 ↔ m % 2 = 0) ∧ (nI m &&& Int32.ofInt 2 = 0 ↔ m / 2 % 2 = 0) ∧ (nI m &&& Int32.ofInt 4 = 0 ↔ m / 4 % 2 = 0) ∧ (nI m &&& Int32.ofInt 8 = 0 ↔ m / 8 % 2 = 0)) := by decide +kernel
def bts (m : Nat) : Nat := m % 2 + m / 2 % 2 + m / 4 % 2 + m / 8 % 2
def sp_X10_mixed : SPc := fun As μ K => match As with
  | [.inl s, .inl t, .inl w] => ∃ a b m : Nat, s = nI a ∧ t = nI b ∧ w = nI m ∧ a < 524288 ∧ b < 524288 ∧ m < 16 ∧ K (.inl (some (.inl (nI (mxN a b m))))) μ
  | _ => False
theorem ite_k {c : Prop} [Decidable c] {a b : Nat} (hc : c) : (if c then a else b) = a := if_pos hc
def ct_X10_mixed : List (Nat × CI) := [(41, ci_X10_part), (45, ci_X10_packed)]
def ci_X10_mixed : CI := (yX10_mixed, cX10_mixed, 7, some .int, 3, (1, 0, 0, 23), 0, [], sp_X10_mixed)
set_option maxRecDepth 100000 in
theorem ck_X10_mixed : chkM ci_X10_mixed RX10 co_X10_mixed ct_X10_mixed [] false false = true := by decide +kernel
set_option maxHeartbeats 4000000 in
set_option maxRecDepth 100000 in
theorem ms_X10_mixed {g : GPT} {ot : OT} {l : Launch} (hl : l.stackTraces = false) : MS g ot l ci_X10_mixed := by
  refine ms0_of hl RX10 co_X10_mixed ct_X10_mixed [] false false 51 ck_X10_mixed (List.forall_mem_cons.mpr ⟨ms_X10_part hl, List.forall_mem_cons.mpr ⟨ms_X10_packed hl, fun _ h => nomatch h⟩⟩) ?_
  intro As μ K h
  simp only [ci_X10_mixed, sp_X10_mixed] at h
  split at h
  case h_2 => exact h.elim
  obtain ⟨a, b, m, rfl, rfl, rfl, ha, hb, hm, h⟩ := h
  obtain ⟨m1, m2, m3, m4⟩ := mbit m hm
  have go : ∀ x y z w : Nat, x = (if m % 2 = 0 then a else b) → y = (if m / 2 % 2 = 0 then a else b) → z = (if m / 4 % 2 = 0 then a else b) → w = (if m / 8 % 2 = 0 then a else b) → K (.inl (some (.inl (nI (pkN (prt x 0) (prt y 1) (prt z 2) (prt w 3)))))) μ := by
    rintro x y z w rfl rfl rfl rfl
    exact h
  refine ⟨Nat.le_of_ble_eq_true rfl, fun h1 => ?_, fun h1 => ?_⟩
  all_goals
    refine ⟨_, 0, rfl, rfl, by assumption, by omega, fun h2 => ?_, fun h2 => ?_⟩
    all_goals
      refine ⟨_, 1, rfl, rfl, by assumption, by omega, fun h3 => ?_, fun h3 => ?_⟩
      all_goals
        refine ⟨_, 2, rfl, rfl, by assumption, by omega, fun h4 => ?_, fun h4 => ?_⟩
        all_goals
          refine ⟨_, 3, rfl, rfl, by assumption, by omega, _, _, _, _, rfl, rfl, rfl, rfl, ?_⟩
          simp only [ifP] at h1 h2 h3 h4
          rw [m1] at h1
          rw [m2] at h2
          rw [m3] at h3
          rw [m4] at h4
          try simp only [Classical.not_not] at h1
          try simp only [Classical.not_not] at h2
          try simp only [Classical.not_not] at h3
          try simp only [Classical.not_not] at h4
          refine go _ _ _ _ ?_ ?_ ?_ ?_
          · first | exact (if_pos h1).symm | exact (if_neg h1).symm
          · first | exact (if_pos h2).symm | exact (if_neg h2).symm
          · first | exact (if_pos h3).symm | exact (if_neg h3).symm
          · first | exact (if_pos h4).symm | exact (if_neg h4).symm
theorem bts_eq : ∀ m, m < 16 → (nI m &&& Int32.ofInt 1) + (nI m >>> (Int32.ofInt 1 &&& 31) &&& Int32.ofInt 1) + (nI m >>> (Int32.ofInt 2 &&& 31) &&& Int32.ofInt 1) + (nI m >>> (Int32.ofInt 3 &&& 31) &&& Int32.ofInt 1) = nI (bts m) := by decide +kernel
def sp_X10_bits : SPc := fun As μ K => match As with
  | [.inl w] => ∃ m : Nat, w = nI m ∧ m < 16 ∧ K (.inl (some (.inl (nI (bts m))))) μ
  | _ => False
def ct_X10_bits : List (Nat × CI) := []
def ci_X10_bits : CI := (yX10_bits, cX10_bits, 1, some .int, 1, (0, 0, 0, 0), 0, [], sp_X10_bits)
set_option maxRecDepth 100000 in
theorem ck_X10_bits : chkM ci_X10_bits RX10 co_X10_bits ct_X10_bits [] false false = true := by decide +kernel
set_option maxHeartbeats 4000000 in
set_option maxRecDepth 100000 in
theorem ms_X10_bits {g : GPT} {ot : OT} {l : Launch} (hl : l.stackTraces = false) : MS g ot l ci_X10_bits := by
  refine ms0_of hl RX10 co_X10_bits ct_X10_bits [] false false 27 ck_X10_bits (fun _ h => nomatch h) ?_
  intro As μ K h
  simp only [ci_X10_bits, sp_X10_bits] at h
  split at h
  case h_2 => exact h.elim
  obtain ⟨m, rfl, hm, h⟩ := h
  refine ⟨Nat.le_of_ble_eq_true rfl, ?_⟩
  show K _ _
  rw [bts_eq m hm]
  exact h
end
section
/-! THE REFERENCE, its reads. -/
def sp_X10_isEntity : SPc := fun As μ K => match As with
  | [.inl e] => K (.inl (some (.inl (iB (0 ≤ e ∧ e ≤ 15))))) μ
  | _ => False
theorem ret01 {x : Int32} {P : Prop} (h : x = 0 ∨ x = 1) (p : P) : (x = 0 ∨ x = 1) ∧ P := ⟨h, p⟩
def ct_X10_isEntity : List (Nat × CI) := [(49, ci_X10_in)]
def ci_X10_isEntity : CI := (yX10_isEntity, cX10_isEntity, 1, some .boolean, 1, (1, 0, 0, 22), 0, [], sp_X10_isEntity)
set_option maxRecDepth 100000 in
theorem ck_X10_isEntity : chkM ci_X10_isEntity RX10 co_X10_isEntity ct_X10_isEntity [] true false = true := by decide +kernel
set_option maxHeartbeats 4000000 in
set_option maxRecDepth 100000 in
theorem ms_X10_isEntity {g : GPT} {ot : OT} {l : Launch} (hl : l.stackTraces = false) : MS g ot l ci_X10_isEntity := by
  refine ms0_of hl RX10 co_X10_isEntity ct_X10_isEntity [] true false 10 ck_X10_isEntity (List.forall_mem_cons.mpr ⟨ms_X10_in hl, fun _ h => nomatch h⟩) ?_
  intro As μ K h
  simp only [ci_X10_isEntity, sp_X10_isEntity] at h
  split at h
  case h_2 => exact h.elim
  exact ⟨Nat.le_of_ble_eq_true rfl, iB_01 _, h⟩
def sp_X10_isClient : SPc := fun As μ K => match As with
  | [.inl e] => K (.inl (some (.inl (iB (0 ≤ e ∧ e ≤ 2))))) μ
  | _ => False
def ct_X10_isClient : List (Nat × CI) := [(49, ci_X10_in)]
def ci_X10_isClient : CI := (yX10_isClient, cX10_isClient, 1, some .boolean, 1, (1, 0, 0, 22), 0, [], sp_X10_isClient)
set_option maxRecDepth 100000 in
theorem ck_X10_isClient : chkM ci_X10_isClient RX10 co_X10_isClient ct_X10_isClient [] true false = true := by decide +kernel
set_option maxHeartbeats 4000000 in
set_option maxRecDepth 100000 in
theorem ms_X10_isClient {g : GPT} {ot : OT} {l : Launch} (hl : l.stackTraces = false) : MS g ot l ci_X10_isClient := by
  refine ms0_of hl RX10 co_X10_isClient ct_X10_isClient [] true false 10 ck_X10_isClient (List.forall_mem_cons.mpr ⟨ms_X10_in hl, fun _ h => nomatch h⟩) ?_
  intro As μ K h
  simp only [ci_X10_isClient, sp_X10_isClient] at h
  split at h
  case h_2 => exact h.elim
  exact ⟨Nat.le_of_ble_eq_true rfl, iB_01 _, h⟩
def sp_X10_isPosition : SPc := fun As μ K => match As with
  | [.inl x, .inl y] => K (.inl (some (.inl (iB ((0 ≤ x ∧ x ≤ 31) ∧ (0 ≤ y ∧ y ≤ 31)))))) μ
  | _ => False
def ct_X10_isPosition : List (Nat × CI) := [(49, ci_X10_in)]
def ci_X10_isPosition : CI := (yX10_isPosition, cX10_isPosition, 2, some .boolean, 2, (1, 0, 0, 22), 0, [], sp_X10_isPosition)
set_option maxRecDepth 100000 in
theorem ck_X10_isPosition : chkM ci_X10_isPosition RX10 co_X10_isPosition ct_X10_isPosition [] true false = true := by decide +kernel
set_option maxHeartbeats 4000000 in
set_option maxRecDepth 100000 in
theorem ms_X10_isPosition {g : GPT} {ot : OT} {l : Launch} (hl : l.stackTraces = false) : MS g ot l ci_X10_isPosition := by
  refine ms0_of hl RX10 co_X10_isPosition ct_X10_isPosition [] true false 19 ck_X10_isPosition (List.forall_mem_cons.mpr ⟨ms_X10_in hl, fun _ h => nomatch h⟩) ?_
  intro As μ K h
  simp only [ci_X10_isPosition, sp_X10_isPosition] at h
  split at h
  case h_2 => exact h.elim
  rename_i x y
  refine ⟨Nat.le_of_ble_eq_true rfl, fun h1 => ?_, fun h1 => ⟨fun h2 => ?_, fun h2 => ?_⟩⟩
  · have h1 : iB (0 ≤ x ∧ x ≤ 31) = 0 := h1
    rw [iB_eq0] at h1
    have e : iB ((0 ≤ x ∧ x ≤ 31) ∧ (0 ≤ y ∧ y ≤ 31)) = 0 := (iB_eq0 _).mpr fun q => h1 q.1
    rw [e] at h
    exact ⟨Or.inl rfl, h⟩
  · have h2 : iB (0 ≤ y ∧ y ≤ 31) = 0 := h2
    rw [iB_eq0] at h2
    have e : iB ((0 ≤ x ∧ x ≤ 31) ∧ (0 ≤ y ∧ y ≤ 31)) = 0 := (iB_eq0 _).mpr fun q => h2 q.2
    rw [e] at h
    exact ⟨Or.inl rfl, h⟩
  · have h1 : ¬ iB (0 ≤ x ∧ x ≤ 31) = 0 := h1
    have h2 : ¬ iB (0 ≤ y ∧ y ≤ 31) = 0 := h2
    rw [iB_eq0, Classical.not_not] at h1 h2
    have e : iB ((0 ≤ x ∧ x ≤ 31) ∧ (0 ≤ y ∧ y ≤ 31)) = 1 := if_pos ⟨h1, h2⟩
    rw [e] at h
    exact ⟨Or.inr rfl, h⟩
def sp_X10_stateOf : SPc := fun As μ K => match As with
  | [.inr (.inr (20, r)), .inl e] => ∃ i : Nat, e = nI i ∧ i < 16 ∧ K (.inl (some (.inl (μ.1 (r + 1) (3 + 3 * i))))) μ
  | _ => False
def ct_X10_stateOf : List (Nat × CI) := []
def ci_X10_stateOf : CI := (yX10_stateOf, cX10_stateOf, 2, some .int, 2, (0, 0, 0, 0), 19, [], sp_X10_stateOf)
set_option maxRecDepth 100000 in
theorem ck_X10_stateOf : chkM ci_X10_stateOf RX10 co_X10_stateOf ct_X10_stateOf [] false false = true := by decide +kernel
set_option maxHeartbeats 4000000 in
set_option maxRecDepth 100000 in
theorem ms_X10_stateOf {g : GPT} {ot : OT} {l : Launch} (hl : l.stackTraces = false) : MS g ot l ci_X10_stateOf := by
  refine ms0_of hl RX10 co_X10_stateOf ct_X10_stateOf [] false false 14 ck_X10_stateOf (fun _ h => nomatch h) ?_
  intro As μ K h
  simp only [ci_X10_stateOf, sp_X10_stateOf] at h
  split at h
  case h_2 => exact h.elim
  obtain ⟨i, rfl, hi, h⟩ := h
  refine ⟨Nat.le_of_ble_eq_true rfl, 3 + 3 * i, ?_, by omega, h⟩
  simp only [iL, nI_add, nI_mul]
def sp_X10_exists : SPc := fun As μ K => match As with
  | [.inr (.inr (20, r)), .inl e] => ∃ i : Nat, e = nI i ∧ i < 16 ∧ K (.inl (some (.inl (iB (¬ μ.1 (r + 1) (3 + 3 * i) = -1))))) μ
  | _ => False
def ct_X10_exists : List (Nat × CI) := [(53, ci_X10_stateOf)]
def ci_X10_exists : CI := (yX10_exists, cX10_exists, 2, some .boolean, 2, (1, 0, 0, 21), 19, [], sp_X10_exists)
set_option maxRecDepth 100000 in
theorem ck_X10_exists : chkM ci_X10_exists RX10 co_X10_exists ct_X10_exists [] true false = true := by decide +kernel
set_option maxHeartbeats 4000000 in
set_option maxRecDepth 100000 in
theorem ms_X10_exists {g : GPT} {ot : OT} {l : Launch} (hl : l.stackTraces = false) : MS g ot l ci_X10_exists := by
  refine ms0_of hl RX10 co_X10_exists ct_X10_exists [] true false 14 ck_X10_exists (List.forall_mem_cons.mpr ⟨ms_X10_stateOf hl, fun _ h => nomatch h⟩) ?_
  intro As μ K h
  simp only [ci_X10_exists, sp_X10_exists] at h
  split at h
  case h_2 => exact h.elim
  rename_i r e
  obtain ⟨i, rfl, hi, h⟩ := h
  refine ⟨Nat.le_of_ble_eq_true rfl, i, rfl, hi, fun h1 => ?_, fun h1 => ?_⟩
  · have h1 : μ.1 (r + 1) (3 + 3 * i) = -1 := h1
    have e : iB (¬ μ.1 (r + 1) (3 + 3 * i) = -1) = 0 := (iB_eq0 _).mpr fun q => q h1
    rw [e] at h
    exact ⟨Or.inl rfl, h⟩
  · have h1 : ¬ μ.1 (r + 1) (3 + 3 * i) = -1 := h1
    have e : iB (¬ μ.1 (r + 1) (3 + 3 * i) = -1) = 1 := if_pos h1
    rw [e] at h
    exact ⟨Or.inr rfl, h⟩
def sp_X10_base : SPc := fun As μ K => match As with
  | [.inl c, .inl e] => ∃ i j : Nat, c = nI i ∧ e = nI j ∧ K (.inl (some (.inl (nI (51 + 2406 * i + (1958 + 3 * j)))))) μ
  | _ => False
def ct_X10_base : List (Nat × CI) := [(77, ci_X10_cell)]
def ci_X10_base : CI := (yX10_base, cX10_base, 2, some .int, 2, (1, 0, 0, 21), 0, [], sp_X10_base)
set_option maxRecDepth 100000 in
theorem ck_X10_base : chkM ci_X10_base RX10 co_X10_base ct_X10_base [] false false = true := by decide +kernel
set_option maxHeartbeats 4000000 in
set_option maxRecDepth 100000 in
theorem ms_X10_base {g : GPT} {ot : OT} {l : Launch} (hl : l.stackTraces = false) : MS g ot l ci_X10_base := by
  refine ms0_of hl RX10 co_X10_base ct_X10_base [] false false 13 ck_X10_base (List.forall_mem_cons.mpr ⟨ms_X10_cell hl, fun _ h => nomatch h⟩) ?_
  intro As μ K h
  simp only [ci_X10_base, sp_X10_base] at h
  split at h
  case h_2 => exact h.elim
  obtain ⟨i, j, rfl, rfl, h⟩ := h
  refine ⟨Nat.le_of_ble_eq_true rfl, i, 1958 + 3 * j, rfl, ?_, h⟩
  simp only [iL, nI_add, nI_mul]
def sp_X10_records : SPc := fun As μ K => match As with
  | [.inl c, .inl e] => ∃ i j : Nat, c = nI i ∧ e = nI j ∧ K (.inl (some (.inl (nI (51 + 2406 * i + (2006 + 25 * j)))))) μ
  | _ => False
def ct_X10_records : List (Nat × CI) := [(77, ci_X10_cell)]
def ci_X10_records : CI := (yX10_records, cX10_records, 2, some .int, 2, (1, 0, 0, 21), 0, [], sp_X10_records)
set_option maxRecDepth 100000 in
theorem ck_X10_records : chkM ci_X10_records RX10 co_X10_records ct_X10_records [] false false = true := by decide +kernel
set_option maxHeartbeats 4000000 in
set_option maxRecDepth 100000 in
theorem ms_X10_records {g : GPT} {ot : OT} {l : Launch} (hl : l.stackTraces = false) : MS g ot l ci_X10_records := by
  refine ms0_of hl RX10 co_X10_records ct_X10_records [] false false 13 ck_X10_records (List.forall_mem_cons.mpr ⟨ms_X10_cell hl, fun _ h => nomatch h⟩) ?_
  intro As μ K h
  simp only [ci_X10_records, sp_X10_records] at h
  split at h
  case h_2 => exact h.elim
  obtain ⟨i, j, rfl, rfl, h⟩ := h
  refine ⟨Nat.le_of_ble_eq_true rfl, i, 2006 + 25 * j, rfl, ?_, h⟩
  simp only [iL, nI_add, nI_mul]
def sp_X10_packetCell : SPc := fun As μ K => match As with
  | [.inr (.inr (20, r)), .inl c, .inl e] => ∃ i j : Nat, c = nI i ∧ e = nI j ∧ K (.inl (some (.inl (nI (51 + 2406 * i + (66 + 86 * j)))))) μ
  | _ => False
def ct_X10_packetCell : List (Nat × CI) := [(77, ci_X10_cell)]
def ci_X10_packetCell : CI := (yX10_packetCell, cX10_packetCell, 3, some .int, 3, (1, 0, 0, 21), 19, [], sp_X10_packetCell)
set_option maxRecDepth 100000 in
theorem ck_X10_packetCell : chkM ci_X10_packetCell RX10 co_X10_packetCell ct_X10_packetCell [] false false = true := by decide +kernel
set_option maxHeartbeats 4000000 in
set_option maxRecDepth 100000 in
theorem ms_X10_packetCell {g : GPT} {ot : OT} {l : Launch} (hl : l.stackTraces = false) : MS g ot l ci_X10_packetCell := by
  refine ms0_of hl RX10 co_X10_packetCell ct_X10_packetCell [] false false 13 ck_X10_packetCell (List.forall_mem_cons.mpr ⟨ms_X10_cell hl, fun _ h => nomatch h⟩) ?_
  intro As μ K h
  simp only [ci_X10_packetCell, sp_X10_packetCell] at h
  split at h
  case h_2 => exact h.elim
  obtain ⟨i, j, rfl, rfl, h⟩ := h
  refine ⟨Nat.le_of_ble_eq_true rfl, i, 66 + 86 * j, rfl, ?_, h⟩
  simp only [iL, nI_add, nI_mul]
/-- a cell of the reference's row, changed -/
def rW (μ : MM) (r : Nat) (f : Nat → Int32) : MM := (stF μ.1 (r + 1) f, μ.2)
theorem rW_at (μ : MM) (r : Nat) (f : Nat → Int32) : (rW μ r f).1 (r + 1) = f := stF_at _ _ _
theorem rW_rW (μ : MM) (r : Nat) (f g : Nat → Int32) : rW (rW μ r f) r g = rW μ r g := by
  unfold rW
  rw [stF_stF]
theorem rW_self (μ : MM) (r : Nat) : rW μ r (μ.1 (r + 1)) = μ := by
  unfold rW
  rw [stF_self]
theorem up2_rW (μ : MM) (r j : Nat) (x : Int32) : ((up2 μ.1 (r + 1) j x, μ.2) : MM) = rW μ r (upd (μ.1 (r + 1)) j x) := by
  unfold rW
  rw [up2_stF]
def sp_X10_add : SPc := fun As μ K => match As with
  | [.inr (.inr (20, r)), .inl c, .inl w, .inl x] => ∃ i j : Nat, c = nI i ∧ w = nI j ∧ 51 + 2406 * i + j < 7269 ∧ K (.inl none) (rW μ r (upd (μ.1 (r + 1)) (51 + 2406 * i + j) (μ.1 (r + 1) (51 + 2406 * i + j) + x)))
  | _ => False
def ct_X10_add : List (Nat × CI) := [(77, ci_X10_cell)]
def ci_X10_add : CI := (yX10_add, cX10_add, 4, none, 4, (1, 0, 0, 21), 19, [], sp_X10_add)
set_option maxRecDepth 100000 in
theorem ck_X10_add : chkM ci_X10_add RX10 co_X10_add ct_X10_add [] false false = true := by decide +kernel
set_option maxHeartbeats 4000000 in
set_option maxRecDepth 100000 in
theorem ms_X10_add {g : GPT} {ot : OT} {l : Launch} (hl : l.stackTraces = false) : MS g ot l ci_X10_add := by
  refine ms0_of hl RX10 co_X10_add ct_X10_add [] false false 16 ck_X10_add (List.forall_mem_cons.mpr ⟨ms_X10_cell hl, fun _ h => nomatch h⟩) ?_
  intro As μ K h
  simp only [ci_X10_add, sp_X10_add] at h
  split at h
  case h_2 => exact h.elim
  obtain ⟨i, j, rfl, rfl, hb, h⟩ := h
  refine ⟨Nat.le_of_ble_eq_true rfl, i, j, rfl, rfl, 51 + 2406 * i + j, rfl, hb, 51 + 2406 * i + j, rfl, hb, ?_⟩
  rw [← up2_rW] at h
  exact h
def sp_X10_isConnected : SPc := fun As μ K => match As with
  | [.inr (.inr (20, r)), .inl c] => ∃ i : Nat, c = nI i ∧ i < 3 ∧ K (.inl (some (.inl (iB (μ.1 (r + 1) (51 + 2406 * i) = 1))))) μ
  | _ => False
def ct_X10_isConnected : List (Nat × CI) := [(80, ci_X10_of)]
def ci_X10_isConnected : CI := (yX10_isConnected, cX10_isConnected, 2, some .boolean, 2, (2, 0, 0, 43), 19, [], sp_X10_isConnected)
set_option maxRecDepth 100000 in
theorem ck_X10_isConnected : chkM ci_X10_isConnected RX10 co_X10_isConnected ct_X10_isConnected [] true false = true := by decide +kernel
set_option maxHeartbeats 4000000 in
set_option maxRecDepth 100000 in
theorem ms_X10_isConnected {g : GPT} {ot : OT} {l : Launch} (hl : l.stackTraces = false) : MS g ot l ci_X10_isConnected := by
  refine ms0_of hl RX10 co_X10_isConnected ct_X10_isConnected [] true false 15 ck_X10_isConnected (List.forall_mem_cons.mpr ⟨ms_X10_of hl, fun _ h => nomatch h⟩) ?_
  intro As μ K h
  simp only [ci_X10_isConnected, sp_X10_isConnected] at h
  split at h
  case h_2 => exact h.elim
  rename_i r c
  obtain ⟨i, rfl, hi, h⟩ := h
  refine ⟨Nat.le_of_ble_eq_true rfl, i, 0, rfl, rfl, by omega, fun h1 => ?_, fun h1 => ?_⟩
  · have h1 : ¬ μ.1 (r + 1) (51 + 2406 * i) = 1 := h1
    have e : iB (μ.1 (r + 1) (51 + 2406 * i) = 1) = 0 := (iB_eq0 _).mpr h1
    rw [e] at h
    exact ⟨Or.inl rfl, h⟩
  · have h1 : ¬ ¬ μ.1 (r + 1) (51 + 2406 * i) = 1 := h1
    have e : iB (μ.1 (r + 1) (51 + 2406 * i) = 1) = 1 := if_pos (Classical.not_not.mp h1)
    rw [e] at h
    exact ⟨Or.inr rfl, h⟩
def sp_X10_aim : SPc := fun As μ K => match As with
  | [.inr (.inr (20, r)), .inl c, .inl x, .inl y, .inl z] => ∃ i : Nat, c = nI i ∧ i < 3 ∧ K (.inl none) (rW μ r (upd (upd (upd (μ.1 (r + 1)) (51 + 2406 * i + 1) x) (51 + 2406 * i + 2) y) (51 + 2406 * i + 3) z))
  | _ => False
def ct_X10_aim : List (Nat × CI) := [(77, ci_X10_cell)]
def ci_X10_aim : CI := (yX10_aim, cX10_aim, 5, none, 5, (1, 0, 0, 21), 19, [], sp_X10_aim)
set_option maxRecDepth 100000 in
theorem ck_X10_aim : chkM ci_X10_aim RX10 co_X10_aim ct_X10_aim [] false false = true := by decide +kernel
set_option maxHeartbeats 4000000 in
set_option maxRecDepth 100000 in
theorem ms_X10_aim {g : GPT} {ot : OT} {l : Launch} (hl : l.stackTraces = false) : MS g ot l ci_X10_aim := by
  refine ms0_of hl RX10 co_X10_aim ct_X10_aim [] false false 27 ck_X10_aim (List.forall_mem_cons.mpr ⟨ms_X10_cell hl, fun _ h => nomatch h⟩) ?_
  intro As μ K h
  simp only [ci_X10_aim, sp_X10_aim] at h
  split at h
  case h_2 => exact h.elim
  obtain ⟨i, rfl, hi, h⟩ := h
  refine ⟨Nat.le_of_ble_eq_true rfl, i, 1, rfl, rfl, 51 + 2406 * i + 1, rfl, by omega, i, 2, rfl, rfl, 51 + 2406 * i + 2, rfl, by omega, i, 3, rfl, rfl, 51 + 2406 * i + 3, rfl, by omega, ?_⟩
  show K _ _
  simp only [up2_stF, stF_stF, stF_at]
  exact h
/-- a client's cells as at first -/
def clrF (f : Nat → Int32) (c : Nat) : Nat → Int32 := fun k => if 51 + 2406 * c ≤ k ∧ k < 51 + 2406 * c + 2406 then (if ∃ e, e < 16 ∧ k = 51 + 2406 * c + (1958 + 3 * e) + 2 then -1 else 0) else f k
def clrL1 (f : Nat → Int32) (c i : Nat) : Nat → Int32 := fun k => if 51 + 2406 * c ≤ k ∧ k < 51 + 2406 * c + i then 0 else f k
def clrL2 (f : Nat → Int32) (c i : Nat) : Nat → Int32 := fun k => if 51 + 2406 * c ≤ k ∧ k < 51 + 2406 * c + 2406 then (if ∃ e, e < i ∧ k = 51 + 2406 * c + (1958 + 3 * e) + 2 then -1 else 0) else f k
def sp_X10_clear : SPc := fun As μ K => match As with
  | [.inr (.inr (20, r)), .inl c] => ∃ i : Nat, c = nI i ∧ i < 3 ∧ K (.inl none) (rW μ r (clrF (μ.1 (r + 1)) i))
  | _ => False
def ct_X10_clear : List (Nat × CI) := [(77, ci_X10_cell), (83, ci_X10_base)]
def ci_X10_clear : CI := (yX10_clear, cX10_clear, 3, none, 2, (2, 0, 0, 42), 19, [], sp_X10_clear)
set_option maxRecDepth 100000 in
theorem ck_X10_clear : chkM ci_X10_clear RX10 co_X10_clear ct_X10_clear [] false false = true := by decide +kernel
set_option maxHeartbeats 4000000 in
set_option maxRecDepth 100000 in
theorem ms_X10_clear {g : GPT} {ot : OT} {l : Launch} (hl : l.stackTraces = false) : MS g ot l ci_X10_clear := by
  refine ms_of hl RX10 co_X10_clear ct_X10_clear [] false false [2,28] 36 ck_X10_clear (List.forall_mem_cons.mpr ⟨ms_X10_cell hl, List.forall_mem_cons.mpr ⟨ms_X10_base hl, fun _ h => nomatch h⟩⟩) ?_
  intro As μ K h
  simp only [ci_X10_clear, sp_X10_clear] at h
  split at h
  case h_2 => exact h.elim
  rename_i r c0
  obtain ⟨c, rfl, hc, h⟩ := h
  refine ⟨Nat.le_of_ble_eq_true rfl, fun n pc lc st μ' ce sl => (∃ i, i ≤ 2406 ∧ n = 3000 - i ∧ pc = 2 ∧ lc = [some (.inr (.inr (20, r))), some (.inl (nI c)), some (.inl (nI i))] ∧ st = [] ∧ μ' = rW μ r (clrL1 (μ.1 (r + 1)) c i) ∧ ce = 0 ∧ sl = 0) ∨ (∃ i, i ≤ 16 ∧ n = 16 - i ∧ pc = 28 ∧ lc = [some (.inr (.inr (20, r))), some (.inl (nI c)), some (.inl (nI i))] ∧ st = [] ∧ μ' = rW μ r (clrL2 (μ.1 (r + 1)) c i) ∧ ce = 0 ∧ sl = 0), ?_, ?_⟩
  · refine ⟨3000, [some (.inr (.inr (20, r))), some (.inl (nI c)), some (.inl (nI 0))], ⟨rfl, rfl, rfl, trivial⟩, Or.inl ⟨0, Nat.zero_le _, rfl, rfl, rfl, rfl, ?_, rfl, rfl⟩⟩
    have e : clrL1 (μ.1 (r + 1)) c 0 = μ.1 (r + 1) := by
      funext k
      unfold clrL1
      rw [if_neg (by omega)]
    rw [e, rW_self]
  · rintro n pc lc st μ' ce sl (⟨i, hi, rfl, rfl, rfl, rfl, rfl, rfl, rfl⟩ | ⟨i, hi, rfl, rfl, rfl, rfl, rfl, rfl, rfl⟩)
    · refine ⟨fun h1 => ?_, fun h1 => ?_⟩
      · simp only [icP, ifP, iL, iM1] at h1
        try simp only [z_nI] at h1
        try simp only [nI_add, nI_mul] at h1
        first | rw [nI_le_iff (by omega) (by omega)] at h1 | rw [nI_lt_iff (by omega) (by omega)] at h1 | rw [nI_eq_iff (by omega) (by omega)] at h1
        obtain rfl : i = 2406 := by omega
        refine ⟨16, [some (.inr (.inr (20, r))), some (.inl (nI c)), some (.inl (nI 0))], by omega, ⟨rfl, rfl, rfl, trivial⟩, Or.inr ⟨0, Nat.zero_le _, rfl, rfl, rfl, rfl, ?_, rfl, rfl⟩⟩
        rfl
      · simp only [icP, ifP, iL, iM1] at h1
        try simp only [z_nI] at h1
        try simp only [nI_add, nI_mul] at h1
        first | rw [nI_le_iff (by omega) (by omega)] at h1 | rw [nI_lt_iff (by omega) (by omega)] at h1 | rw [nI_eq_iff (by omega) (by omega)] at h1
        refine ⟨c, i, rfl, rfl, 51 + 2406 * c + i, rfl, by omega, 3000 - (i + 1), [some (.inr (.inr (20, r))), some (.inl (nI c)), some (.inl (nI (i + 1)))], by omega, ⟨rfl, rfl, inc_tv i, trivial⟩, Or.inl ⟨i + 1, by omega, rfl, rfl, rfl, rfl, ?_, rfl, rfl⟩⟩
        show ((up2 (rW μ r _).1 (r + 1) _ _, (rW μ r _).2) : MM) = _
        rw [up2_rW, rW_rW, rW_at]
        congr 1
        funext k
        unfold upd clrL1
        by_cases hk : k = 51 + 2406 * c + i
        · rw [if_pos hk, if_pos (by omega)]; rfl
        · rw [if_neg hk]
          by_cases hk2 : 51 + 2406 * c ≤ k ∧ k < 51 + 2406 * c + i
          · rw [if_pos hk2, if_pos (by omega)]
          · rw [if_neg hk2, if_neg (by omega)]
    · refine ⟨fun h1 => ?_, fun h1 => ?_⟩
      · simp only [icP, ifP, iL, iM1] at h1
        try simp only [z_nI] at h1
        try simp only [nI_add, nI_mul] at h1
        first | rw [nI_le_iff (by omega) (by omega)] at h1 | rw [nI_lt_iff (by omega) (by omega)] at h1 | rw [nI_eq_iff (by omega) (by omega)] at h1
        obtain rfl : i = 16 := by omega
        exact h
      · simp only [icP, ifP, iL, iM1] at h1
        try simp only [z_nI] at h1
        try simp only [nI_add, nI_mul] at h1
        first | rw [nI_le_iff (by omega) (by omega)] at h1 | rw [nI_lt_iff (by omega) (by omega)] at h1 | rw [nI_eq_iff (by omega) (by omega)] at h1
        refine ⟨c, i, rfl, rfl, 51 + 2406 * c + (1958 + 3 * i) + 2, ?_, by omega, 16 - (i + 1), [some (.inr (.inr (20, r))), some (.inl (nI c)), some (.inl (nI (i + 1)))], by omega, ⟨rfl, rfl, inc_tv i, trivial⟩, Or.inr ⟨i + 1, by omega, rfl, rfl, rfl, rfl, ?_, rfl, rfl⟩⟩
        · simp only [iL, nI_add]
        · show ((up2 (rW μ r _).1 (r + 1) _ _, (rW μ r _).2) : MM) = _
          rw [up2_rW, rW_rW, rW_at]
          congr 1
          funext k
          unfold upd clrL2
          by_cases hk : k = 51 + 2406 * c + (1958 + 3 * i) + 2
          · rw [if_pos hk, if_pos (by omega), if_pos ⟨i, by omega, hk⟩]; rfl
          · rw [if_neg hk]
            by_cases hk2 : 51 + 2406 * c ≤ k ∧ k < 51 + 2406 * c + 2406
            · rw [if_pos hk2, if_pos hk2]
              congr 1
              refine propext ⟨fun ⟨e, he, hq⟩ => ⟨e, by omega, hq⟩, fun ⟨e, he, hq⟩ => ⟨e, ?_, hq⟩⟩
              by_cases hei : e = i
              · subst hei
                exact absurd hq hk
              · omega
            · rw [if_neg hk2, if_neg hk2]
end
section
/-! WHAT A STATE IS: lists and functions; both programs are held against it. -/
/-- an entry of a packet: 0 kind, 1 entity, 2 baseline, 3 mask, 4 state -/
abbrev EN : Type := Nat → Int32
/-- a packet: 0 number, 1 bytes, 2 when it was sent, 3 when it arrives (0: not, or not any more), 4 flying; its entries -/
abbrev PK : Type := (Nat → Int32) × List EN
/-- a client: its scalars (0 connected, 1 2 center, 3 radius, 4 budget, 5 6 to lose, 7 last number, 8 .. 15 counts: sent, bytes, lost packets, lost acknowledgements, received, broken, given up, entries), acknowledgements on their way (number, arrival), packets, per entity (0 priority, 1 number, 2 state of the baseline), records -/
abbrev CS : Type := (Nat → Int32) × List (Int32 × Int32) × List PK × (Nat → Nat → Int32) × (Nat → List (Int32 × Int32))
abbrev cS (X : CS) : Nat → Int32 := X.1
abbrev cA (X : CS) : List (Int32 × Int32) := X.2.1
abbrev cP (X : CS) : List PK := X.2.2.1
abbrev cB (X : CS) : Nat → Nat → Int32 := X.2.2.2.1
abbrev cR (X : CS) : Nat → List (Int32 × Int32) := X.2.2.2.2
/-- the world: 0 time, 1 delay, 2 interval; per entity 0 state, 1 2 velocity; the clients -/
abbrev WS : Type := (Nat → Int32) × (Nat → Nat → Int32) × (Nat → CS)
abbrev wT (W : WS) : Nat → Int32 := W.1
abbrev wE (W : WS) : Nat → Nat → Int32 := W.2.1
abbrev wC (W : WS) : Nat → CS := W.2.2
/-! how the reference's row holds it -/
def RP (f : Nat → Int32) (at' : Nat) (p : PK) : Prop := (∀ k, k < 5 → f (at' + k) = p.1 k) ∧ f (at' + 5) = nI p.2.length ∧ p.2.length ≤ 16 ∧ ∀ (i : Nat) (en : EN), p.2[i]? = some en → ∀ k, k < 5 → f (at' + 6 + 5 * i + k) = en k
def RR (f : Nat → Int32) (at' : Nat) (l : List (Int32 × Int32)) : Prop := f at' = nI l.length ∧ l.length ≤ 12 ∧ ∀ (i : Nat) (q : Int32 × Int32), l[i]? = some q → f (at' + 1 + 2 * i) = q.1 ∧ f (at' + 2 + 2 * i) = q.2
def RC (f : Nat → Int32) (c : Nat) (X : CS) : Prop := (∀ k, k < 16 → f (51 + 2406 * c + k) = cS X k) ∧
  (f (51 + 2406 * c + 16) = nI (cA X).length ∧ (cA X).length ≤ 24 ∧ ∀ (i : Nat) (q : Int32 × Int32), (cA X)[i]? = some q → f (51 + 2406 * c + (17 + 2 * i)) = q.1 ∧ f (51 + 2406 * c + (17 + 2 * i) + 1) = q.2) ∧
  (f (51 + 2406 * c + 65) = nI (cP X).length ∧ (cP X).length ≤ 22 ∧ ∀ (i : Nat) (p : PK), (cP X)[i]? = some p → RP f (51 + 2406 * c + (66 + 86 * i)) p) ∧
  (∀ e, e < 16 → ∀ k, k < 3 → f (51 + 2406 * c + (1958 + 3 * e) + k) = cB X e k) ∧
  ∀ e, e < 16 → RR f (51 + 2406 * c + (2006 + 25 * e)) (cR X e)
def RW (f : Nat → Int32) (W : WS) : Prop := (∀ k, k < 3 → f k = wT W k) ∧ (∀ e, e < 16 → ∀ k, k < 3 → f (3 + 3 * e + k) = wE W e k) ∧ ∀ c, c < 3 → RC f c (wC W c)
/-- a client's cells stay where nothing in them changed -/
theorem RC.keep {f g : Nat → Int32} {c : Nat} {X : CS} (h : RC f c X) (hg : ∀ k, 51 + 2406 * c ≤ k → k < 51 + 2406 * c + 2406 → g k = f k) : RC g c X := by
  obtain ⟨h1, ⟨h2, h3, h4⟩, ⟨h5, h6, h7⟩, h8, h9⟩ := h
  refine ⟨fun k hk => by rw [hg _ (by omega) (by omega)]; exact h1 k hk, ⟨by rw [hg _ (by omega) (by omega)]; exact h2, h3, fun i q hq => ?_⟩, ⟨by rw [hg _ (by omega) (by omega)]; exact h5, h6, fun i p hp => ?_⟩, fun e he k hk => by rw [hg _ (by omega) (by omega)]; exact h8 e he k hk, fun e he => ?_⟩
  · have hi : i < (cA X).length := (List.getElem?_eq_some_iff.mp hq).1
    rw [hg _ (by omega) (by omega), hg _ (by omega) (by omega)]
    exact h4 i q hq
  · have hi : i < (cP X).length := (List.getElem?_eq_some_iff.mp hp).1
    obtain ⟨a1, a2, a3, a4⟩ := h7 i p hp
    refine ⟨fun k hk => by rw [hg _ (by omega) (by omega)]; exact a1 k hk, by rw [hg _ (by omega) (by omega)]; exact a2, a3, fun j en hj k hk => ?_⟩
    have hj2 : j < p.2.length := (List.getElem?_eq_some_iff.mp hj).1
    rw [hg _ (by omega) (by omega)]
    exact a4 j en hj k hk
  · obtain ⟨a1, a2, a3⟩ := h9 e he
    refine ⟨by rw [hg _ (by omega) (by omega)]; exact a1, a2, fun i q hq => ?_⟩
    have hi : i < (cR X e).length := (List.getElem?_eq_some_iff.mp hq).1
    rw [hg _ (by omega) (by omega), hg _ (by omega) (by omega)]
    exact a3 i q hq
/-! what is seen of a state -/
def dstN (n : Nat) (cx cy : Int32) : Int32 := if aI (nI (prt n 0) - cx) ≤ aI (nI (prt n 1) - cy) then aI (nI (prt n 1) - cy) else aI (nI (prt n 0) - cx)
def dstC (X : CS) (s : Int32) : Int32 := dstN (sN s) (cS X 1) (cS X 2)
abbrev inA (X : CS) (s : Int32) : Prop := ¬ s = -1 ∧ dstC X s ≤ cS X 3
def prc (X : CS) (E : Nat → Nat → Int32) (e : Nat) : Nat :=
  if inA X (E e 0) then (if cB X e 2 = -1 then 6 else if cB X e 2 = E e 0 then 0 else 2 + bts (mkN (sN (cB X e 2)) (sN (E e 0)))) else (if cB X e 2 = -1 then 0 else 2)
def lastN (l : List (Int32 × Int32)) : Int32 := match l.getLast? with
  | some q => q.1
  | none => 0
def lastS (l : List (Int32 × Int32)) : Int32 := match l.getLast? with
  | some q => q.2
  | none => -1
def recS (l : List (Int32 × Int32)) (n : Int32) : Int32 := match l.find? (fun q => decide (q.1 = n)) with
  | some q => q.2
  | none => -1
/-- numbers of the entities with a property, below a bound -/
def cntN (P : Nat → Prop) (d : ∀ e, Decidable (P e)) : Nat → Nat
  | 0 => 0
  | n + 1 => cntN P d n + (if P n then 1 else 0)
abbrev stP (X : CS) (E : Nat → Nat → Int32) (e : Nat) : Prop := ¬ lastS (cR X e) = (if inA X (E e 0) then E e 0 else -1)
def staleN (X : CS) (E : Nat → Nat → Int32) : Nat := cntN (stP X E) (fun _ => inferInstance) 16
abbrev fly (p : PK) : Prop := p.1 4 = 1
def flyL (X : CS) : List PK := (cP X).filter fun p => decide (fly p)
end
section
/-! THE REFERENCE reads a client. -/
def sp_X10_weight : SPc := fun As μ K => match As with
  | [.inl k] => ∃ i : Nat, k = nI i ∧ i < 4 ∧ K (.inl (some (.inl (nI (2 ^ i))))) μ
  | _ => False
def ct_X10_weight : List (Nat × CI) := []
def ci_X10_weight : CI := (yX10_weight, cX10_weight, 1, some .int, 1, (0, 0, 0, 0), 0, [], sp_X10_weight)
set_option maxRecDepth 100000 in
theorem ck_X10_weight : chkM ci_X10_weight RX10 co_X10_weight ct_X10_weight [] false false = true := by decide +kernel
set_option maxHeartbeats 4000000 in
set_option maxRecDepth 100000 in
theorem ms_X10_weight {g : GPT} {ot : OT} {l : Launch} (hl : l.stackTraces = false) : MS g ot l ci_X10_weight := by
  refine ms0_of hl RX10 co_X10_weight ct_X10_weight [] false false 9 ck_X10_weight (fun _ h => nomatch h) ?_
  intro As μ K h
  simp only [ci_X10_weight, sp_X10_weight] at h
  split at h
  case h_2 => exact h.elim
  obtain ⟨i, rfl, hi, h⟩ := h
  refine ⟨Nat.le_of_ble_eq_true rfl, ?_⟩
  show K _ _
  rw [shl1 (by omega)]
  exact h
def sp_X10_distance : SPc := fun As μ K => match As with
  | [.inr (.inr (20, r)), .inl c, .inl e] => ∃ (i j n : Nat) (X : CS), c = nI i ∧ e = nI j ∧ i < 3 ∧ j < 16 ∧ RC (μ.1 (r + 1)) i X ∧ μ.1 (r + 1) (3 + 3 * j) = nI n ∧ n < 524288 ∧ K (.inl (some (.inl (dstN n (cS X 1) (cS X 2))))) μ
  | _ => False
def ct_X10_distance : List (Nat × CI) := [(53, ci_X10_stateOf), (41, ci_X10_part), (80, ci_X10_of), (96, ci_X10_size)]
def ci_X10_distance : CI := (yX10_distance, cX10_distance, 5, some .int, 3, (2, 0, 0, 43), 19, [], sp_X10_distance)
set_option maxRecDepth 100000 in
theorem ck_X10_distance : chkM ci_X10_distance RX10 co_X10_distance ct_X10_distance [] false false = true := by decide +kernel
set_option maxHeartbeats 4000000 in
set_option maxRecDepth 100000 in
theorem ms_X10_distance {g : GPT} {ot : OT} {l : Launch} (hl : l.stackTraces = false) : MS g ot l ci_X10_distance := by
  refine ms0_of hl RX10 co_X10_distance ct_X10_distance [] false false 36 ck_X10_distance (List.forall_mem_cons.mpr ⟨ms_X10_stateOf hl, List.forall_mem_cons.mpr ⟨ms_X10_part hl, List.forall_mem_cons.mpr ⟨ms_X10_of hl, List.forall_mem_cons.mpr ⟨ms_X10_size hl, fun _ h => nomatch h⟩⟩⟩⟩) ?_
  intro As μ K h
  simp only [ci_X10_distance, sp_X10_distance] at h
  split at h
  case h_2 => exact h.elim
  rename_i r c e
  obtain ⟨i, j, n, X, rfl, rfl, hi, hj, hX, hs, hn, h⟩ := h
  have s1 := hX.1 1 (by omega)
  have s2 := hX.1 2 (by omega)
  refine ⟨Nat.le_of_ble_eq_true rfl, j, rfl, hj, n, 0, hs, rfl, hn, by omega, i, 1, rfl, rfl, by omega, j, rfl, hj, n, 1, hs, rfl, hn, by omega, i, 2, rfl, rfl, by omega, fun h1 => ?_, fun h1 => ?_⟩
  · have h1 : aI (nI (prt n 0) - μ.1 (r + 1) (51 + 2406 * i + 1)) ≤ aI (nI (prt n 1) - μ.1 (r + 1) (51 + 2406 * i + 2)) := h1
    rw [s1, s2] at h1
    have e : dstN n (cS X 1) (cS X 2) = aI (nI (prt n 1) - cS X 2) := if_pos h1
    rw [e, ← s2] at h
    exact h
  · have h1 : ¬ aI (nI (prt n 0) - μ.1 (r + 1) (51 + 2406 * i + 1)) ≤ aI (nI (prt n 1) - μ.1 (r + 1) (51 + 2406 * i + 2)) := h1
    rw [s1, s2] at h1
    have e : dstN n (cS X 1) (cS X 2) = aI (nI (prt n 0) - cS X 1) := if_neg h1
    rw [e, ← s1] at h
    exact h
def sp_X10_isInArea : SPc := fun As μ K => match As with
  | [.inr (.inr (20, r)), .inl c, .inl e] => ∃ (i j : Nat) (X : CS), c = nI i ∧ e = nI j ∧ i < 3 ∧ j < 16 ∧ RC (μ.1 (r + 1)) i X ∧ sOK (μ.1 (r + 1) (3 + 3 * j)) ∧ K (.inl (some (.inl (iB (inA X (μ.1 (r + 1) (3 + 3 * j))))))) μ
  | _ => False
def ct_X10_isInArea : List (Nat × CI) := [(68, ci_X10_exists), (99, ci_X10_distance), (80, ci_X10_of)]
def ci_X10_isInArea : CI := (yX10_isInArea, cX10_isInArea, 3, some .boolean, 3, (3, 0, 0, 67), 19, [], sp_X10_isInArea)
set_option maxRecDepth 100000 in
theorem ck_X10_isInArea : chkM ci_X10_isInArea RX10 co_X10_isInArea ct_X10_isInArea [] true false = true := by decide +kernel
set_option maxHeartbeats 4000000 in
set_option maxRecDepth 100000 in
theorem ms_X10_isInArea {g : GPT} {ot : OT} {l : Launch} (hl : l.stackTraces = false) : MS g ot l ci_X10_isInArea := by
  refine ms0_of hl RX10 co_X10_isInArea ct_X10_isInArea [] true false 22 ck_X10_isInArea (List.forall_mem_cons.mpr ⟨ms_X10_exists hl, List.forall_mem_cons.mpr ⟨ms_X10_distance hl, List.forall_mem_cons.mpr ⟨ms_X10_of hl, fun _ h => nomatch h⟩⟩⟩) ?_
  intro As μ K h
  simp only [ci_X10_isInArea, sp_X10_isInArea] at h
  split at h
  case h_2 => exact h.elim
  rename_i r c e
  obtain ⟨i, j, X, rfl, rfl, hi, hj, hX, hs, h⟩ := h
  have s3 := hX.1 3 (by omega)
  refine ⟨Nat.le_of_ble_eq_true rfl, j, rfl, hj, fun h1 => ?_, fun h1 => ?_⟩
  · have h1 : iB (¬ μ.1 (r + 1) (3 + 3 * j) = -1) = 0 := h1
    rw [iB_eq0, Classical.not_not] at h1
    have e : iB (inA X (μ.1 (r + 1) (3 + 3 * j))) = 0 := (iB_eq0 _).mpr fun q => q.1 h1
    rw [e] at h
    exact ⟨Or.inl rfl, h⟩
  · have h1 : ¬ iB (¬ μ.1 (r + 1) (3 + 3 * j) = -1) = 0 := h1
    rw [iB_eq0, Classical.not_not] at h1
    obtain ⟨n1, n2⟩ := sOK_n hs h1
    refine ⟨i, j, sN (μ.1 (r + 1) (3 + 3 * j)), X, rfl, rfl, hi, hj, hX, n2, n1, i, 3, rfl, rfl, by omega, fun h2 => ?_, fun h2 => ?_⟩
    · have h2 : μ.1 (r + 1) (51 + 2406 * i + 3) < dstC X (μ.1 (r + 1) (3 + 3 * j)) := h2
      rw [s3] at h2
      have e : iB (inA X (μ.1 (r + 1) (3 + 3 * j))) = 0 := (iB_eq0 _).mpr fun q => Int32.not_le.mpr h2 q.2
      rw [e] at h
      exact ⟨Or.inl rfl, h⟩
    · have h2 : ¬ μ.1 (r + 1) (51 + 2406 * i + 3) < dstC X (μ.1 (r + 1) (3 + 3 * j)) := h2
      rw [s3] at h2
      have e : iB (inA X (μ.1 (r + 1) (3 + 3 * j))) = 1 := if_pos ⟨h1, Int32.not_lt.mp h2⟩
      rw [e] at h
      exact ⟨Or.inr rfl, h⟩
theorem lastN_nil : lastN [] = 0 := rfl
theorem last_at {l : List (Int32 × Int32)} {q : Int32 × Int32} (hn : 0 < l.length) (h : l[l.length - 1]? = some q) : lastN l = q.1 ∧ lastS l = q.2 := by
  have e : l.getLast? = some q := by rw [List.getLast?_eq_getElem?]; exact h
  unfold lastN lastS
  rw [e]
  exact ⟨rfl, rfl⟩
def sp_X10_lastNumber : SPc := fun As μ K => match As with
  | [.inr (.inr (20, r)), .inl c, .inl e] => ∃ (i j : Nat) (l : List (Int32 × Int32)), c = nI i ∧ e = nI j ∧ i < 3 ∧ j < 16 ∧ RR (μ.1 (r + 1)) (51 + 2406 * i + (2006 + 25 * j)) l ∧ K (.inl (some (.inl (lastN l)))) μ
  | _ => False
theorem nI_sub1 {a b : Nat} (h : b ≤ a) : nI a - nI b = nI (a - b) := by
  have e : nI a = nI (a - b) + nI b := by rw [nI_add]; congr 1; omega
  rw [e]
  exact Int32.add_sub_cancel _ _
def ct_X10_lastNumber : List (Nat × CI) := [(105, ci_X10_records)]
def ci_X10_lastNumber : CI := (yX10_lastNumber, cX10_lastNumber, 4, some .int, 3, (2, 0, 0, 42), 19, [], sp_X10_lastNumber)
set_option maxRecDepth 100000 in
theorem ck_X10_lastNumber : chkM ci_X10_lastNumber RX10 co_X10_lastNumber ct_X10_lastNumber [] false false = true := by decide +kernel
set_option maxHeartbeats 4000000 in
set_option maxRecDepth 100000 in
theorem ms_X10_lastNumber {g : GPT} {ot : OT} {l : Launch} (hl : l.stackTraces = false) : MS g ot l ci_X10_lastNumber := by
  refine ms0_of hl RX10 co_X10_lastNumber ct_X10_lastNumber [] false false 30 ck_X10_lastNumber (List.forall_mem_cons.mpr ⟨ms_X10_records hl, fun _ h => nomatch h⟩) ?_
  intro As μ K h
  simp only [ci_X10_lastNumber, sp_X10_lastNumber] at h
  split at h
  case h_2 => exact h.elim
  rename_i r c e
  obtain ⟨i, j, l, rfl, rfl, hi, hj, ⟨a1, a2, a3⟩, h⟩ := h
  refine ⟨Nat.le_of_ble_eq_true rfl, i, j, rfl, rfl, 51 + 2406 * i + (2006 + 25 * j), rfl, by omega, fun h1 => ?_, fun h1 => ?_⟩
  · simp only [ifP, a1, z_nI] at h1
    rw [nI_eq_iff (by omega) (by omega)] at h1
    have hl : 0 < l.length := by omega
    obtain ⟨q, hq⟩ : ∃ q, l[l.length - 1]? = some q := ⟨_, List.getElem?_eq_getElem (by omega)⟩
    obtain ⟨b1, b2⟩ := a3 _ q hq
    rw [(last_at hl hq).1, ← b1] at h
    refine ⟨51 + 2406 * i + (2006 + 25 * j), rfl, by omega, 51 + 2406 * i + (2006 + 25 * j) + 1 + 2 * (l.length - 1), ?_, by omega, h⟩
    show nI (51 + 2406 * i + (2006 + 25 * j)) + Int32.ofInt 2 * μ.1 (r + 1) (51 + 2406 * i + (2006 + 25 * j)) - Int32.ofInt 1 = _
    rw [a1]
    simp only [iL, nI_add, nI_mul]
    rw [nI_sub1 (by omega)]
    congr 1
    omega
  · simp only [ifP, a1, z_nI, Classical.not_not] at h1
    rw [nI_eq_iff (by omega) (by omega)] at h1
    have : l = [] := List.length_eq_zero_iff.mp (by omega)
    subst this
    exact h
def sp_X10_copyState : SPc := fun As μ K => match As with
  | [.inr (.inr (20, r)), .inl c, .inl e] => ∃ (i j : Nat) (l : List (Int32 × Int32)), c = nI i ∧ e = nI j ∧ i < 3 ∧ j < 16 ∧ RR (μ.1 (r + 1)) (51 + 2406 * i + (2006 + 25 * j)) l ∧ K (.inl (some (.inl (lastS l)))) μ
  | _ => False
def ct_X10_copyState : List (Nat × CI) := [(105, ci_X10_records)]
def ci_X10_copyState : CI := (yX10_copyState, cX10_copyState, 4, some .int, 3, (2, 0, 0, 42), 19, [], sp_X10_copyState)
set_option maxRecDepth 100000 in
theorem ck_X10_copyState : chkM ci_X10_copyState RX10 co_X10_copyState ct_X10_copyState [] false false = true := by decide +kernel
set_option maxHeartbeats 4000000 in
set_option maxRecDepth 100000 in
theorem ms_X10_copyState {g : GPT} {ot : OT} {l : Launch} (hl : l.stackTraces = false) : MS g ot l ci_X10_copyState := by
  refine ms0_of hl RX10 co_X10_copyState ct_X10_copyState [] false false 28 ck_X10_copyState (List.forall_mem_cons.mpr ⟨ms_X10_records hl, fun _ h => nomatch h⟩) ?_
  intro As μ K h
  simp only [ci_X10_copyState, sp_X10_copyState] at h
  split at h
  case h_2 => exact h.elim
  rename_i r c e
  obtain ⟨i, j, l, rfl, rfl, hi, hj, ⟨a1, a2, a3⟩, h⟩ := h
  refine ⟨Nat.le_of_ble_eq_true rfl, i, j, rfl, rfl, 51 + 2406 * i + (2006 + 25 * j), rfl, by omega, fun h1 => ?_, fun h1 => ?_⟩
  · simp only [ifP, a1, z_nI] at h1
    rw [nI_eq_iff (by omega) (by omega)] at h1
    have hl : 0 < l.length := by omega
    obtain ⟨q, hq⟩ : ∃ q, l[l.length - 1]? = some q := ⟨_, List.getElem?_eq_getElem (by omega)⟩
    obtain ⟨b1, b2⟩ := a3 _ q hq
    rw [(last_at hl hq).2, ← b2] at h
    refine ⟨51 + 2406 * i + (2006 + 25 * j), rfl, by omega, 51 + 2406 * i + (2006 + 25 * j) + 2 + 2 * (l.length - 1), ?_, by omega, h⟩
    show nI (51 + 2406 * i + (2006 + 25 * j)) + Int32.ofInt 2 * μ.1 (r + 1) (51 + 2406 * i + (2006 + 25 * j)) = _
    rw [a1]
    simp only [iL, nI_add, nI_mul]
    congr 1
    omega
  · simp only [ifP, a1, z_nI, Classical.not_not] at h1
    rw [nI_eq_iff (by omega) (by omega)] at h1
    have : l = [] := List.length_eq_zero_iff.mp (by omega)
    subst this
    exact h
/-- the numbers of the records are apart -/
def apN (l : List (Int32 × Int32)) : Prop := ∀ (i j : Nat) (p q : Int32 × Int32), l[i]? = some p → l[j]? = some q → p.1 = q.1 → i = j
theorem recS_none {l : List (Int32 × Int32)} {n : Int32} (h : ∀ (i : Nat) (q : Int32 × Int32), l[i]? = some q → ¬ q.1 = n) : recS l n = -1 := by
  unfold recS
  rw [List.find?_eq_none.mpr fun q hq => by
    obtain ⟨i, hi⟩ := List.getElem?_of_mem hq
    simpa using h i q hi]
theorem recS_some {l : List (Int32 × Int32)} (hl : apN l) {i : Nat} {q : Int32 × Int32} (hi : l[i]? = some q) : recS l q.1 = q.2 := by
  unfold recS
  cases hf : l.find? (fun z => decide (z.1 = q.1)) with
  | none =>
    have := List.find?_eq_none.mp hf q (List.mem_of_getElem? hi)
    simp at this
  | some z =>
    have h1 : z.1 = q.1 := by simpa using List.find?_some hf
    obtain ⟨j, hj⟩ := List.getElem?_of_mem (List.mem_of_find?_eq_some hf)
    have := hl j i z q hj hi h1
    subst this
    rw [hi] at hj
    cases hj
    rfl
def sp_X10_recordState : SPc := fun As μ K => match As with
  | [.inr (.inr (20, r)), .inl c, .inl e, .inl n] => ∃ (i j : Nat) (l : List (Int32 × Int32)), c = nI i ∧ e = nI j ∧ i < 3 ∧ j < 16 ∧ RR (μ.1 (r + 1)) (51 + 2406 * i + (2006 + 25 * j)) l ∧ apN l ∧ K (.inl (some (.inl (recS l n)))) μ
  | _ => False
def ct_X10_recordState : List (Nat × CI) := [(105, ci_X10_records)]
def ci_X10_recordState : CI := (yX10_recordState, cX10_recordState, 7, some .int, 4, (2, 0, 0, 42), 19, [], sp_X10_recordState)
set_option maxRecDepth 100000 in
theorem ck_X10_recordState : chkM ci_X10_recordState RX10 co_X10_recordState ct_X10_recordState [] false false = true := by decide +kernel
set_option maxHeartbeats 4000000 in
set_option maxRecDepth 100000 in
theorem ms_X10_recordState {g : GPT} {ot : OT} {l : Launch} (hl : l.stackTraces = false) : MS g ot l ci_X10_recordState := by
  refine ms_of hl RX10 co_X10_recordState ct_X10_recordState [] false false [13] 48 ck_X10_recordState (List.forall_mem_cons.mpr ⟨ms_X10_records hl, fun _ h => nomatch h⟩) ?_
  intro As μ K h
  simp only [ci_X10_recordState, sp_X10_recordState] at h
  split at h
  case h_2 => exact h.elim
  rename_i r c e n
  obtain ⟨i, j, l, rfl, rfl, hi, hj, ⟨a1, a2, a3⟩, hap, h⟩ := h
  refine ⟨Nat.le_of_ble_eq_true rfl, fun m pc lc st μ' ce sl => ∃ k, k ≤ l.length ∧ m = l.length - k ∧ pc = 13 ∧ lc = [some (.inr (.inr (20, r))), none, none, some (.inl n), some (.inl (nI (51 + 2406 * i + (2006 + 25 * j)))), some (.inl (recS (l.take k) n)), some (.inl (nI k))] ∧ st = [] ∧ μ = μ' ∧ ce = 0 ∧ sl = 0, ?_, ?_⟩
  · exact ⟨i, j, rfl, rfl, l.length, [some (.inr (.inr (20, r))), none, none, some (.inl n), some (.inl (nI (51 + 2406 * i + (2006 + 25 * j)))), some (.inl (recS (l.take 0) n)), some (.inl (nI 0))], ⟨rfl, rfl, rfl, rfl, rfl, trivial⟩, 0, Nat.zero_le _, rfl, rfl, rfl, rfl, rfl, rfl, rfl⟩
  · rintro m pc lc st μ' ce sl ⟨k, hk, rfl, rfl, rfl, rfl, rfl, rfl, rfl⟩
    refine ⟨51 + 2406 * i + (2006 + 25 * j), rfl, by omega, fun h1 => ?_, fun h1 => ?_⟩
    · simp only [icP, a1] at h1
      rw [nI_le_iff (by omega) (by omega)] at h1
      rw [List.take_of_length_le (by omega)]
      exact h
    · simp only [icP, a1] at h1
      rw [nI_le_iff (by omega) (by omega)] at h1
      obtain ⟨q, hq⟩ : ∃ q, l[k]? = some q := ⟨_, List.getElem?_eq_getElem (by omega)⟩
      obtain ⟨b1, b2⟩ := a3 k q hq
      have ht : l.take (k + 1) = l.take k ++ [q] := by rw [List.take_add_one, hq]; rfl
      refine ⟨51 + 2406 * i + (2006 + 25 * j) + 1 + 2 * k, ?_, by omega, fun h2 => ?_, fun h2 => ?_⟩
      · simp only [iL, nI_add, nI_mul]
      · have h2 : ¬ μ.1 (r + 1) (51 + 2406 * i + (2006 + 25 * j) + 1 + 2 * k) = n := h2
        rw [b1] at h2
        refine ⟨l.length - (k + 1), [some (.inr (.inr (20, r))), none, none, some (.inl n), some (.inl (nI (51 + 2406 * i + (2006 + 25 * j)))), some (.inl (recS (l.take (k + 1)) n)), some (.inl (nI (k + 1)))], by omega, ⟨rfl, rfl, rfl, ?_, inc_tv k, trivial⟩, k + 1, by omega, rfl, rfl, rfl, rfl, rfl, rfl, rfl⟩
        have e : recS (l.take (k + 1)) n = recS (l.take k) n := by
          unfold recS
          rw [ht, List.find?_append]
          have e2 : ([q] : List (Int32 × Int32)).find? (fun q => decide (q.1 = n)) = none := by simp [h2]
          rw [e2, Option.or_none]
        rw [e]
      · simp only [icP, Classical.not_not] at h2
        have h2 : μ.1 (r + 1) (51 + 2406 * i + (2006 + 25 * j) + 1 + 2 * k) = n := h2
        rw [b1] at h2
        refine ⟨51 + 2406 * i + (2006 + 25 * j) + 2 + 2 * k, ?_, by omega, l.length - (k + 1), [some (.inr (.inr (20, r))), none, none, some (.inl n), some (.inl (nI (51 + 2406 * i + (2006 + 25 * j)))), some (.inl (recS (l.take (k + 1)) n)), some (.inl (nI (k + 1)))], by omega, ⟨rfl, rfl, rfl, ?_, inc_tv k, trivial⟩, k + 1, by omega, rfl, rfl, rfl, rfl, rfl, rfl, rfl⟩
        · simp only [iL, nI_add, nI_mul]
        · have hap' : apN (l.take (k + 1)) := fun x y p z hx hy he => by
            have hx' : l[x]? = some p := by
              rw [List.getElem?_take] at hx
              split at hx
              · exact hx
              · cases hx
            have hy' : l[y]? = some z := by
              rw [List.getElem?_take] at hy
              split at hy
              · exact hy
              · cases hy
            exact hap x y p z hx' hy' he
          have e : recS (l.take (k + 1)) n = q.2 := by
            rw [← h2]
            exact recS_some hap' (i := k) (by rw [List.getElem?_take, if_pos (by omega)]; exact hq)
          show (some (.inl (μ.1 (r + 1) (51 + 2406 * i + (2006 + 25 * j) + 2 + 2 * k))) : Option TV) = _
          rw [e, b2]
end
section
/-! THE REFERENCE, the values that it tells. -/
theorem swEq {w : Nat} {k : Int} (hw : w < 2 ^ 31) (q : (nI w).toInt = k) : (w : Int) = k := by
  rw [nI_toInt hw] at q
  exact q
theorem swNe {w : Nat} {k : Int} (hw : w < 2 ^ 31) (q : ¬ (nI w).toInt = k) : ¬ (w : Int) = k := by
  rw [nI_toInt hw] at q
  exact q
theorem swOut {w : Nat} {a b : Int} (hw : w < 2 ^ 31) (q : (nI w).toInt < a ∨ b < (nI w).toInt) : (w : Int) < a ∨ b < (w : Int) := by
  rw [nI_toInt hw] at q
  exact q
def cpV (l : List (Int32 × Int32)) (w : Nat) : Int32 := if w = 0 then iB (¬ lastS l = -1) else if w = 5 then lastN l else if w = 6 then nI l.length else nI (pz (lastS l) (w - 1))
theorem cpV_d (l : List (Int32 × Int32)) {w : Nat} (h0 : ¬ w = 0) (h5 : ¬ w = 5) (h6 : ¬ w = 6) : cpV l w = nI (pz (lastS l) (w - 1)) := by
  unfold cpV
  rw [if_neg h0, if_neg h5, if_neg h6]
theorem iB_1 {p : Prop} [Decidable p] (h : p) : iB p = 1 := if_pos h
theorem iB_0 {p : Prop} [Decidable p] (h : ¬ p) : iB p = 0 := if_neg h
theorem sOK_last {l : List (Int32 × Int32)} (h : ∀ q ∈ l, sOK q.2) : sOK (lastS l) := by
  unfold lastS
  cases hq : l.getLast? with
  | none => exact Or.inl rfl
  | some q => exact h q (List.mem_of_getLast? hq)
def sp_X10_copyValue : SPc := fun As μ K => match As with
  | [.inr (.inr (20, r)), .inl c, .inl e, .inl w'] => ∃ (i j w : Nat) (l : List (Int32 × Int32)), c = nI i ∧ e = nI j ∧ w' = nI w ∧ i < 3 ∧ j < 16 ∧ w < 7 ∧ RR (μ.1 (r + 1)) (51 + 2406 * i + (2006 + 25 * j)) l ∧ (∀ q ∈ l, sOK q.2) ∧ K (.inl (some (.inl (cpV l w)))) μ
  | _ => False
def ct_X10_copyValue : List (Nat × CI) := [(189, ci_X10_copyState), (108, ci_X10_lastNumber), (105, ci_X10_records), (71, ci_X10_partOrZero)]
def ci_X10_copyValue : CI := (yX10_copyValue, cX10_copyValue, 5, some .int, 4, (3, 0, 0, 65), 19, [], sp_X10_copyValue)
set_option maxRecDepth 100000 in
theorem ck_X10_copyValue : chkM ci_X10_copyValue RX10 co_X10_copyValue ct_X10_copyValue [] false false = true := by decide +kernel
set_option maxHeartbeats 4000000 in
set_option maxRecDepth 100000 in
theorem ms_X10_copyValue {g : GPT} {ot : OT} {l : Launch} (hl : l.stackTraces = false) : MS g ot l ci_X10_copyValue := by
  refine ms0_of hl RX10 co_X10_copyValue ct_X10_copyValue [] false false 37 ck_X10_copyValue (List.forall_mem_cons.mpr ⟨ms_X10_copyState hl, List.forall_mem_cons.mpr ⟨ms_X10_lastNumber hl, List.forall_mem_cons.mpr ⟨ms_X10_records hl, List.forall_mem_cons.mpr ⟨ms_X10_partOrZero hl, fun _ h => nomatch h⟩⟩⟩⟩) ?_
  intro As μ K h
  simp only [ci_X10_copyValue, sp_X10_copyValue] at h
  split at h
  case h_2 => exact h.elim
  rename_i r c e w'
  obtain ⟨i, j, w, l, rfl, rfl, rfl, hi, hj, hw, hl, hs, h⟩ := h
  refine ⟨Nat.le_of_ble_eq_true rfl, i, j, l, rfl, rfl, hi, hj, hl, fun q => ?_, fun q => ⟨fun q2 => ?_, fun q2 => ⟨fun q3 => ?_, fun q3 => ?_⟩⟩⟩
  · have q := swEq (by omega) q
    obtain rfl : w = 0 := by omega
    refine ⟨fun h1 => ?_, fun h1 => ?_⟩
    · have e : cpV l 0 = 1 := iB_1 h1
      rw [e] at h
      exact h
    · have e : cpV l 0 = 0 := iB_0 h1
      rw [e] at h
      exact h
  · have q := swEq (by omega) q2
    obtain rfl : w = 5 := by omega
    exact ⟨i, j, l, rfl, rfl, hi, hj, hl, h⟩
  · have q := swEq (by omega) q3
    obtain rfl : w = 6 := by omega
    refine ⟨i, j, rfl, rfl, _, rfl, by omega, ?_⟩
    have e : cpV l 6 = μ.1 (r + 1) (51 + 2406 * i + (2006 + 25 * j)) := hl.1.symm
    rw [e] at h
    exact h
  · have q := swNe (by omega) q
    have q2 := swNe (by omega) q2
    have q3 := swNe (by omega) q3
    rw [cpV_d l (by omega) (by omega) (by omega)] at h
    exact ⟨w - 1, nI_sub1 (b := 1) (by omega), by omega, sOK_last hs, h⟩
/-- packets that fly -/
def flyN (l : List PK) : Nat := (l.filter fun p => decide (fly p)).length
theorem flyN_take {l : List PK} {k : Nat} {p : PK} (h : l[k]? = some p) (hp : p.1 4 = 0 ∨ p.1 4 = 1) : nI (flyN (l.take k)) + p.1 4 = nI (flyN (l.take (k + 1))) := by
  have ht : l.take (k + 1) = l.take k ++ [p] := by rw [List.take_add_one, h]; rfl
  unfold flyN
  rw [ht, List.filter_append, List.length_append]
  rcases hp with hp | hp
  · have e : ([p] : List PK).filter (fun p => decide (fly p)) = [] := by simp [hp]
    rw [e, hp]
    show nI _ + 0 = nI (_ + 0)
    rw [Int32.add_zero]
    rfl
  · have e : ([p] : List PK).filter (fun p => decide (fly p)) = [p] := by simp [fly, hp]
    rw [e, hp]
    exact nI_add _ 1
def bitP (l : List PK) : Prop := ∀ p ∈ l, p.1 4 = 0 ∨ p.1 4 = 1
theorem RC.pk {f : Nat → Int32} {c : Nat} {X : CS} (h : RC f c X) {k : Nat} {p : PK} (hp : (cP X)[k]? = some p) : RP f (51 + 2406 * c + (66 + 86 * k)) p := h.2.2.1.2.2 k p hp
theorem at_of_lt {α : Type} {l : List α} {k : Nat} (h : k < l.length) : ∃ q, l[k]? = some q := ⟨_, List.getElem?_eq_getElem h⟩
def sp_X10_flying : SPc := fun As μ K => match As with
  | [.inr (.inr (20, r)), .inl c] => ∃ (i : Nat) (X : CS), c = nI i ∧ i < 3 ∧ RC (μ.1 (r + 1)) i X ∧ bitP (cP X) ∧ K (.inl (some (.inl (nI (flyN (cP X)))))) μ
  | _ => False
def ct_X10_flying : List (Nat × CI) := [(80, ci_X10_of), (125, ci_X10_packetCell)]
def ci_X10_flying : CI := (yX10_flying, cX10_flying, 4, some .int, 2, (2, 0, 0, 43), 19, [], sp_X10_flying)
set_option maxRecDepth 100000 in
theorem ck_X10_flying : chkM ci_X10_flying RX10 co_X10_flying ct_X10_flying [] false false = true := by decide +kernel
set_option maxHeartbeats 4000000 in
set_option maxRecDepth 100000 in
theorem ms_X10_flying {g : GPT} {ot : OT} {l : Launch} (hl : l.stackTraces = false) : MS g ot l ci_X10_flying := by
  refine ms_of hl RX10 co_X10_flying ct_X10_flying [] false false [4] 31 ck_X10_flying (List.forall_mem_cons.mpr ⟨ms_X10_of hl, List.forall_mem_cons.mpr ⟨ms_X10_packetCell hl, fun _ h => nomatch h⟩⟩) ?_
  intro As μ K h
  simp only [ci_X10_flying, sp_X10_flying] at h
  split at h
  case h_2 => exact h.elim
  rename_i r c
  obtain ⟨i, X, rfl, hi, hX, hb, h⟩ := h
  have hl := hX.2.2.1.1
  have hl2 := hX.2.2.1.2.1
  refine ⟨Nat.le_of_ble_eq_true rfl, fun m pc lc st μ' ce sl => ∃ k, k ≤ (cP X).length ∧ m = (cP X).length - k ∧ pc = 4 ∧ lc = [some (.inr (.inr (20, r))), some (.inl (nI i)), some (.inl (nI (flyN ((cP X).take k)))), some (.inl (nI k))] ∧ st = [] ∧ μ = μ' ∧ ce = 0 ∧ sl = 0, ?_, ?_⟩
  · exact ⟨(cP X).length, [some (.inr (.inr (20, r))), some (.inl (nI i)), some (.inl (nI 0)), some (.inl (nI 0))], ⟨rfl, rfl, rfl, rfl, trivial⟩, 0, Nat.zero_le _, rfl, rfl, rfl, rfl, rfl, rfl, rfl⟩
  · rintro m pc lc st μ' ce sl ⟨k, hk, rfl, rfl, rfl, rfl, rfl, rfl, rfl⟩
    refine ⟨i, 65, rfl, rfl, by omega, fun h1 => ?_, fun h1 => ?_⟩
    · simp only [icP, hl] at h1
      rw [nI_le_iff (by omega) (by omega)] at h1
      rw [List.take_of_length_le (by omega)]
      exact h
    · simp only [icP, hl] at h1
      rw [nI_le_iff (by omega) (by omega)] at h1
      obtain ⟨p, hp⟩ := at_of_lt (l := cP X) (k := k) (by omega)
      have h4 := (hX.pk hp).1 4 (by omega)
      refine ⟨i, k, rfl, rfl, _, nI_add _ 4, by omega, (cP X).length - (k + 1), [some (.inr (.inr (20, r))), some (.inl (nI i)), some (.inl (nI (flyN ((cP X).take (k + 1))))), some (.inl (nI (k + 1)))], by omega, ⟨rfl, rfl, ?_, inc_tv k, trivial⟩, k + 1, by omega, rfl, rfl, rfl, rfl, rfl, rfl, rfl⟩
      show (some (.inl (nI (flyN ((cP X).take k)) + μ.1 (r + 1) (51 + 2406 * i + (66 + 86 * k) + 4))) : Option TV) = _
      rw [h4, flyN_take hp (hb p (List.mem_of_getElem? hp))]
def cnV (X : CS) (w : Nat) : Int32 := if w = 6 then nI (flyN (cP X)) else if w < 6 then cS X (8 + w) else cS X (8 + w - 1)
def sp_X10_countOf : SPc := fun As μ K => match As with
  | [.inr (.inr (20, r)), .inl c, .inl w'] => ∃ (i w : Nat) (X : CS), c = nI i ∧ w' = nI w ∧ i < 3 ∧ w < 9 ∧ RC (μ.1 (r + 1)) i X ∧ bitP (cP X) ∧ K (.inl (some (.inl (cnV X w)))) μ
  | _ => False
def ct_X10_countOf : List (Nat × CI) := [(171, ci_X10_flying), (80, ci_X10_of)]
def ci_X10_countOf : CI := (yX10_countOf, cX10_countOf, 3, some .int, 3, (3, 0, 0, 66), 19, [], sp_X10_countOf)
set_option maxRecDepth 100000 in
theorem ck_X10_countOf : chkM ci_X10_countOf RX10 co_X10_countOf ct_X10_countOf [] false false = true := by decide +kernel
set_option maxHeartbeats 4000000 in
set_option maxRecDepth 100000 in
theorem ms_X10_countOf {g : GPT} {ot : OT} {l : Launch} (hl : l.stackTraces = false) : MS g ot l ci_X10_countOf := by
  refine ms0_of hl RX10 co_X10_countOf ct_X10_countOf [] false false 28 ck_X10_countOf (List.forall_mem_cons.mpr ⟨ms_X10_flying hl, List.forall_mem_cons.mpr ⟨ms_X10_of hl, fun _ h => nomatch h⟩⟩) ?_
  intro As μ K h
  simp only [ci_X10_countOf, sp_X10_countOf] at h
  split at h
  case h_2 => exact h.elim
  rename_i r c w'
  obtain ⟨i, w, X, rfl, rfl, hi, hw, hX, hb, h⟩ := h
  refine ⟨Nat.le_of_ble_eq_true rfl, fun h1 => ⟨fun h2 => ?_, fun h2 => ?_⟩, fun h1 => ?_⟩
  · have h1 : ¬ nI w = nI 6 := h1
    have h2 : nI 6 ≤ nI w := h2
    rw [nI_eq_iff (by omega) (by omega)] at h1
    rw [nI_le_iff (by omega) (by omega)] at h2
    refine ⟨i, 8 + w - 1, rfl, ?_, by omega, ?_⟩
    · show nI 8 + nI w - nI 1 = _
      rw [nI_add, nI_sub1 (by omega)]
    · have e : cnV X w = cS X (8 + w - 1) := by unfold cnV; rw [if_neg (by omega), if_neg (by omega)]
      rw [e, ← hX.1 _ (by omega)] at h
      exact h
  · have h1 : ¬ nI w = nI 6 := h1
    have h2 : ¬ nI 6 ≤ nI w := h2
    rw [nI_eq_iff (by omega) (by omega)] at h1
    rw [nI_le_iff (by omega) (by omega)] at h2
    refine ⟨i, 8 + w, rfl, nI_add 8 w, by omega, ?_⟩
    have e : cnV X w = cS X (8 + w) := by unfold cnV; rw [if_neg (by omega), if_pos (by omega)]
    rw [e, ← hX.1 _ (by omega)] at h
    exact h
  · have h1 : ¬ ¬ nI w = nI 6 := h1
    rw [nI_eq_iff (by omega) (by omega)] at h1
    obtain rfl : w = 6 := by omega
    exact ⟨i, X, rfl, hi, hX, hb, h⟩
theorem cntN_step (P : Nat → Prop) (d : ∀ e, Decidable (P e)) (n : Nat) : nI (cntN P d n) + iB (P n) = nI (cntN P d (n + 1)) := by
  show _ = nI (cntN P d n + (if P n then 1 else 0))
  by_cases h : P n
  · rw [if_pos h, iB_1 h]
    exact nI_add _ 1
  · rw [if_neg h, iB_0 h, Int32.add_zero]
    rfl
def sp_X10_staleOf : SPc := fun As μ K => match As with
  | [.inr (.inr (20, r)), .inl c] => ∃ (i : Nat) (X : CS) (E : Nat → Nat → Int32), c = nI i ∧ i < 3 ∧ RC (μ.1 (r + 1)) i X ∧ (∀ e, e < 16 → μ.1 (r + 1) (3 + 3 * e) = E e 0 ∧ sOK (E e 0)) ∧ K (.inl (some (.inl (nI (staleN X E))))) μ
  | _ => False
def ct_X10_staleOf : List (Nat × CI) := [(189, ci_X10_copyState), (102, ci_X10_isInArea), (53, ci_X10_stateOf)]
def ci_X10_staleOf : CI := (yX10_staleOf, cX10_staleOf, 5, some .int, 2, (4, 0, 0, 89), 19, [], sp_X10_staleOf)
set_option maxRecDepth 100000 in
theorem ck_X10_staleOf : chkM ci_X10_staleOf RX10 co_X10_staleOf ct_X10_staleOf [] false false = true := by decide +kernel
set_option maxHeartbeats 4000000 in
set_option maxRecDepth 100000 in
theorem ms_X10_staleOf {g : GPT} {ot : OT} {l : Launch} (hl : l.stackTraces = false) : MS g ot l ci_X10_staleOf := by
  refine ms_of hl RX10 co_X10_staleOf ct_X10_staleOf [] false false [4] 44 ck_X10_staleOf (List.forall_mem_cons.mpr ⟨ms_X10_copyState hl, List.forall_mem_cons.mpr ⟨ms_X10_isInArea hl, List.forall_mem_cons.mpr ⟨ms_X10_stateOf hl, fun _ h => nomatch h⟩⟩⟩) ?_
  intro As μ K h
  simp only [ci_X10_staleOf, sp_X10_staleOf] at h
  split at h
  case h_2 => exact h.elim
  rename_i r c
  obtain ⟨i, X, E, rfl, hi, hX, hE, h⟩ := h
  refine ⟨Nat.le_of_ble_eq_true rfl, fun m pc lc st μ' ce sl => ∃ k, k ≤ 16 ∧ m = 16 - k ∧ pc = 4 ∧ lc = [some (.inr (.inr (20, r))), some (.inl (nI i)), some (.inl (nI (cntN (stP X E) (fun _ => inferInstance) k))), some (.inl (nI k)), none] ∧ st = [] ∧ μ = μ' ∧ ce = 0 ∧ sl = 0, ?_, ?_⟩
  · exact ⟨16, [some (.inr (.inr (20, r))), some (.inl (nI i)), some (.inl (nI 0)), some (.inl (nI 0)), none], ⟨rfl, rfl, rfl, rfl, trivial⟩, 0, Nat.zero_le _, rfl, rfl, rfl, rfl, rfl, rfl, rfl⟩
  · rintro m pc lc st μ' ce sl ⟨k, hk, rfl, rfl, rfl, rfl, rfl, rfl, rfl⟩
    refine ⟨fun h1 => ?_, fun h1 => ?_⟩
    · simp only [icP, ifP, iL, iM1] at h1
      try simp only [z_nI] at h1
      try simp only [nI_add, nI_mul] at h1
      first | rw [nI_le_iff (by omega) (by omega)] at h1 | rw [nI_lt_iff (by omega) (by omega)] at h1 | rw [nI_eq_iff (by omega) (by omega)] at h1
      obtain rfl : k = 16 := by omega
      exact h
    · simp only [icP, ifP, iL, iM1] at h1
      try simp only [z_nI] at h1
      try simp only [nI_add, nI_mul] at h1
      first | rw [nI_le_iff (by omega) (by omega)] at h1 | rw [nI_lt_iff (by omega) (by omega)] at h1 | rw [nI_eq_iff (by omega) (by omega)] at h1
      obtain ⟨e1, e2⟩ := hE k (by omega)
      have go : ∀ x : Int32, x = iB (stP X E k) → (some (.inl (nI (cntN (stP X E) (fun _ => inferInstance) k) + x)) : Option TV) = some (.inl (nI (cntN (stP X E) (fun _ => inferInstance) (k + 1)))) := fun x hx => by
        rw [hx, cntN_step (stP X E) (fun _ => inferInstance) k]
      have fin : ∀ x : Int32, x = iB (stP X E k) → ∃ n' lc', n' < 16 - k ∧ subL lc' [some (.inr (.inr (20, r))), some (.inl (nI i)), some (.inl (nI (cntN (stP X E) (fun _ => inferInstance) k) + x)), some (.inl (nI k + Int32.ofInt 1)), some (.inl (lastS (cR X k)))] ∧ (∃ k, k ≤ 16 ∧ n' = 16 - k ∧ 4 = 4 ∧ lc' = [some (.inr (.inr (20, r))), some (.inl (nI i)), some (.inl (nI (cntN (stP X E) (fun _ => inferInstance) k))), some (.inl (nI k)), none] ∧ ([] : List TV) = [] ∧ μ = μ ∧ 0 = 0 ∧ 0 = 0) := fun x hx =>
        ⟨16 - (k + 1), [some (.inr (.inr (20, r))), some (.inl (nI i)), some (.inl (nI (cntN (stP X E) (fun _ => inferInstance) (k + 1)))), some (.inl (nI (k + 1))), none], by omega, ⟨rfl, rfl, go x hx, inc_tv k, trivial⟩, k + 1, by omega, rfl, rfl, rfl, rfl, rfl, rfl, rfl⟩
      refine ⟨i, k, cR X k, rfl, rfl, hi, by omega, hX.2.2.2.2 k (by omega), i, k, X, rfl, rfl, hi, by omega, hX, e1 ▸ e2, fun h2 => ?_, fun h2 => ?_⟩
      · have h2 : iB (inA X (μ.1 (r + 1) (3 + 3 * k))) = 0 := h2
        rw [iB_eq0, e1] at h2
        refine ⟨fun h3 => fin 1 ?_, fun h3 => fin 0 ?_⟩
        · have h3 : ¬ lastS (cR X k) = -1 := h3
          exact (iB_1 (by unfold stP; rw [if_neg h2]; exact h3)).symm
        · have h3 : ¬ ¬ lastS (cR X k) = -1 := h3
          exact (iB_0 (by unfold stP; rw [if_neg h2]; exact h3)).symm
      · have h2 : ¬ iB (inA X (μ.1 (r + 1) (3 + 3 * k))) = 0 := h2
        rw [iB_eq0, Classical.not_not, e1] at h2
        refine ⟨k, rfl, by omega, fun h3 => fin 1 ?_, fun h3 => fin 0 ?_⟩
        · have h3 : ¬ lastS (cR X k) = μ.1 (r + 1) (3 + 3 * k) := h3
          rw [e1] at h3
          exact (iB_1 (by unfold stP; rw [if_pos h2]; exact h3)).symm
        · have h3 : ¬ ¬ lastS (cR X k) = μ.1 (r + 1) (3 + 3 * k) := h3
          rw [e1] at h3
          exact (iB_0 (by unfold stP; rw [if_pos h2]; exact h3)).symm
/-- the price of an entry, each number below 16 -/
theorem bts_le : ∀ m, m < 16 → bts m ≤ 4 := by decide +kernel
theorem sOK_ne {s : Int32} (h : sOK s) (hs : ¬ s = -1) : ∃ n, n < 524288 ∧ s = nI n ∧ sN s = n := by
  obtain ⟨a, b⟩ := sOK_n h hs
  exact ⟨_, a, b, rfl⟩
def sp_X10_priceOf : SPc := fun As μ K => match As with
  | [.inr (.inr (20, r)), .inl c, .inl e] => ∃ (i j : Nat) (X : CS) (E : Nat → Nat → Int32), c = nI i ∧ e = nI j ∧ i < 3 ∧ j < 16 ∧ RC (μ.1 (r + 1)) i X ∧ (μ.1 (r + 1) (3 + 3 * j) = E j 0 ∧ sOK (E j 0)) ∧ sOK (cB X j 2) ∧ K (.inl (some (.inl (nI (prc X E j))))) μ
  | _ => False
def ct_X10_priceOf : List (Nat × CI) := [(83, ci_X10_base), (102, ci_X10_isInArea), (53, ci_X10_stateOf), (147, ci_X10_mask), (150, ci_X10_bits)]
def ci_X10_priceOf : CI := (yX10_priceOf, cX10_priceOf, 4, some .int, 3, (4, 0, 0, 89), 19, [], sp_X10_priceOf)
set_option maxRecDepth 100000 in
theorem ck_X10_priceOf : chkM ci_X10_priceOf RX10 co_X10_priceOf ct_X10_priceOf [] false false = true := by decide +kernel
set_option maxHeartbeats 4000000 in
set_option maxRecDepth 100000 in
theorem ms_X10_priceOf {g : GPT} {ot : OT} {l : Launch} (hl : l.stackTraces = false) : MS g ot l ci_X10_priceOf := by
  refine ms0_of hl RX10 co_X10_priceOf ct_X10_priceOf [] false false 47 ck_X10_priceOf (List.forall_mem_cons.mpr ⟨ms_X10_base hl, List.forall_mem_cons.mpr ⟨ms_X10_isInArea hl, List.forall_mem_cons.mpr ⟨ms_X10_stateOf hl, List.forall_mem_cons.mpr ⟨ms_X10_mask hl, List.forall_mem_cons.mpr ⟨ms_X10_bits hl, fun _ h => nomatch h⟩⟩⟩⟩⟩) ?_
  intro As μ K h
  simp only [ci_X10_priceOf, sp_X10_priceOf] at h
  split at h
  case h_2 => exact h.elim
  rename_i r c e
  obtain ⟨i, j, X, E, rfl, rfl, hi, hj, hX, ⟨e1, e2⟩, hb, h⟩ := h
  have b2 : μ.1 (r + 1) (51 + 2406 * i + (1958 + 3 * j) + 2) = cB X j 2 := hX.2.2.2.1 j hj 2 (by omega)
  refine ⟨Nat.le_of_ble_eq_true rfl, i, j, rfl, rfl, _, nI_add _ 2, by omega, i, j, X, rfl, rfl, hi, hj, hX, e1 ▸ e2, fun h1 => ?_, fun h1 => ?_⟩
  · have h1 : ¬ iB (inA X (μ.1 (r + 1) (3 + 3 * j))) = 0 := h1
    rw [iB_eq0, Classical.not_not, e1] at h1
    refine ⟨fun h2 => ⟨j, rfl, hj, fun h3 => ?_, fun h3 => ?_⟩, fun h2 => ?_⟩
    · have h2 : ¬ μ.1 (r + 1) (51 + 2406 * i + (1958 + 3 * j) + 2) = -1 := h2
      have h3 : ¬ μ.1 (r + 1) (51 + 2406 * i + (1958 + 3 * j) + 2) = μ.1 (r + 1) (3 + 3 * j) := h3
      rw [b2] at h2
      rw [b2, e1] at h3
      obtain ⟨n1, n2, n3, n4⟩ := sOK_ne hb h2
      obtain ⟨m1, m2, m3, m4⟩ := sOK_ne e2 h1.1
      have e : prc X E j = 2 + bts (mkN n1 m1) := by
        unfold prc
        rw [if_pos h1, if_neg h2, if_neg h3, n4, m4]
      rw [e] at h
      refine ⟨j, rfl, hj, n1, m1, b2.trans n3, e1.trans m3, n2, m2, _, rfl, mkN_lt _ _, ?_⟩
      show K (.inl (some (.inl (nI 2 + nI (bts (mkN n1 m1)))))) μ
      rw [nI_add]
      exact h
    · have h2 : ¬ μ.1 (r + 1) (51 + 2406 * i + (1958 + 3 * j) + 2) = -1 := h2
      have h3 : ¬ ¬ μ.1 (r + 1) (51 + 2406 * i + (1958 + 3 * j) + 2) = μ.1 (r + 1) (3 + 3 * j) := h3
      rw [b2] at h2
      rw [b2, e1, Classical.not_not] at h3
      have e : prc X E j = 0 := by
        unfold prc
        rw [if_pos h1, if_neg h2, if_pos h3]
      rw [e] at h
      exact h
    · have h2 : ¬ ¬ μ.1 (r + 1) (51 + 2406 * i + (1958 + 3 * j) + 2) = -1 := h2
      rw [b2, Classical.not_not] at h2
      have e : prc X E j = 6 := by
        unfold prc
        rw [if_pos h1, if_pos h2]
      rw [e] at h
      exact h
  · have h1 : ¬ ¬ iB (inA X (μ.1 (r + 1) (3 + 3 * j))) = 0 := h1
    rw [iB_eq0, Classical.not_not, e1] at h1
    refine ⟨fun h2 => ?_, fun h2 => ?_⟩
    · have h2 : ¬ μ.1 (r + 1) (51 + 2406 * i + (1958 + 3 * j) + 2) = -1 := h2
      rw [b2] at h2
      have e : prc X E j = 2 := by
        unfold prc
        rw [if_neg h1, if_neg h2]
      rw [e] at h
      exact h
    · have h2 : ¬ ¬ μ.1 (r + 1) (51 + 2406 * i + (1958 + 3 * j) + 2) = -1 := h2
      rw [b2, Classical.not_not] at h2
      have e : prc X E j = 0 := by
        unfold prc
        rw [if_neg h1, if_pos h2]
      rw [e] at h
      exact h
end
section
/-! THE REFERENCE, more values; the digest's parts. -/
def kpV (X : CS) (E : Nat → Nat → Int32) (e w : Nat) : Int32 := if w = 0 then cB X e 0 else if w = 1 then cB X e 1 else if w = 2 then iB (¬ cB X e 2 = -1) else if w = 7 then iB (inA X (E e 0)) else if w = 8 then (if E e 0 = -1 then -1 else dstC X (E e 0)) else nI (pz (cB X e 2) (w - 3))
theorem kpV_d (X : CS) (E : Nat → Nat → Int32) (e : Nat) {w : Nat} (h0 : 3 ≤ w) (h7 : w < 7) : kpV X E e w = nI (pz (cB X e 2) (w - 3)) := by
  unfold kpV
  rw [if_neg (by omega), if_neg (by omega), if_neg (by omega), if_neg (by omega), if_neg (by omega)]
def sp_X10_keptValue : SPc := fun As μ K => match As with
  | [.inr (.inr (20, r)), .inl c, .inl e, .inl w'] => ∃ (i j w : Nat) (X : CS) (E : Nat → Nat → Int32), c = nI i ∧ e = nI j ∧ w' = nI w ∧ i < 3 ∧ j < 16 ∧ w < 9 ∧ RC (μ.1 (r + 1)) i X ∧ (μ.1 (r + 1) (3 + 3 * j) = E j 0 ∧ sOK (E j 0)) ∧ sOK (cB X j 2) ∧ K (.inl (some (.inl (kpV X E j w)))) μ
  | _ => False
def ct_X10_keptValue : List (Nat × CI) := [(83, ci_X10_base), (102, ci_X10_isInArea), (68, ci_X10_exists), (99, ci_X10_distance), (71, ci_X10_partOrZero)]
def ci_X10_keptValue : CI := (yX10_keptValue, cX10_keptValue, 5, some .int, 4, (4, 0, 0, 89), 19, [], sp_X10_keptValue)
set_option maxRecDepth 100000 in
theorem ck_X10_keptValue : chkM ci_X10_keptValue RX10 co_X10_keptValue ct_X10_keptValue [] false false = true := by decide +kernel
set_option maxHeartbeats 4000000 in
set_option maxRecDepth 100000 in
theorem ms_X10_keptValue {g : GPT} {ot : OT} {l : Launch} (hl : l.stackTraces = false) : MS g ot l ci_X10_keptValue := by
  refine ms0_of hl RX10 co_X10_keptValue ct_X10_keptValue [] false false 61 ck_X10_keptValue (List.forall_mem_cons.mpr ⟨ms_X10_base hl, List.forall_mem_cons.mpr ⟨ms_X10_isInArea hl, List.forall_mem_cons.mpr ⟨ms_X10_exists hl, List.forall_mem_cons.mpr ⟨ms_X10_distance hl, List.forall_mem_cons.mpr ⟨ms_X10_partOrZero hl, fun _ h => nomatch h⟩⟩⟩⟩⟩) ?_
  intro As μ K h
  simp only [ci_X10_keptValue, sp_X10_keptValue] at h
  split at h
  case h_2 => exact h.elim
  rename_i r c e w'
  obtain ⟨i, j, w, X, E, rfl, rfl, rfl, hi, hj, hw, hX, ⟨e1, e2⟩, hb, h⟩ := h
  have b0 : μ.1 (r + 1) (51 + 2406 * i + (1958 + 3 * j) + 0) = cB X j 0 := hX.2.2.2.1 j hj 0 (by omega)
  have b1 : μ.1 (r + 1) (51 + 2406 * i + (1958 + 3 * j) + 1) = cB X j 1 := hX.2.2.2.1 j hj 1 (by omega)
  have b2 : μ.1 (r + 1) (51 + 2406 * i + (1958 + 3 * j) + 2) = cB X j 2 := hX.2.2.2.1 j hj 2 (by omega)
  have dfl : 3 ≤ w → w < 7 → K (.inl (some (.inl (nI (pz (μ.1 (r + 1) (51 + 2406 * i + (1958 + 3 * j) + 2)) (w - 3)))))) μ := fun g1 g2 => by
    rw [kpV_d X E j g1 g2, ← b2] at h
    exact h
  have sb : sOK (μ.1 (r + 1) (51 + 2406 * i + (1958 + 3 * j) + 2)) := b2 ▸ hb
  refine ⟨Nat.le_of_ble_eq_true rfl, i, j, rfl, rfl, fun q => ?_, fun q => ?_, fun q => ?_, fun q => ?_, fun q => ?_, fun q => ?_, fun q => ?_, fun q => ?_, fun q => ?_, fun q => ?_, trivial⟩
  · have q := swOut (by omega) q
    exact absurd q (by omega)
  · have q := swEq (by omega) q
    obtain rfl : w = 0 := by omega
    refine ⟨_, nI_add _ 0, by omega, ?_⟩
    have e : kpV X E j 0 = cB X j 0 := rfl
    rw [e, ← b0] at h
    exact h
  · have q := swEq (by omega) q
    obtain rfl : w = 1 := by omega
    refine ⟨_, nI_add _ 1, by omega, ?_⟩
    have e : kpV X E j 1 = cB X j 1 := rfl
    rw [e, ← b1] at h
    exact h
  · have q := swEq (by omega) q
    obtain rfl : w = 2 := by omega
    refine ⟨_, nI_add _ 2, by omega, fun h1 => ?_, fun h1 => ?_⟩
    · have h1 : ¬ μ.1 (r + 1) (51 + 2406 * i + (1958 + 3 * j) + 2) = -1 := h1
      rw [b2] at h1
      have e : kpV X E j 2 = 1 := iB_1 h1
      rw [e] at h
      exact h
    · have h1 : ¬ ¬ μ.1 (r + 1) (51 + 2406 * i + (1958 + 3 * j) + 2) = -1 := h1
      rw [b2] at h1
      have e : kpV X E j 2 = 0 := iB_0 h1
      rw [e] at h
      exact h
  · have q := swEq (by omega) q
    exact ⟨_, nI_add _ 2, by omega, w - 3, nI_sub1 (b := 3) (by omega), by omega, sb, dfl (by omega) (by omega)⟩
  · have q := swEq (by omega) q
    exact ⟨_, nI_add _ 2, by omega, w - 3, nI_sub1 (b := 3) (by omega), by omega, sb, dfl (by omega) (by omega)⟩
  · have q := swEq (by omega) q
    exact ⟨_, nI_add _ 2, by omega, w - 3, nI_sub1 (b := 3) (by omega), by omega, sb, dfl (by omega) (by omega)⟩
  · have q := swEq (by omega) q
    exact ⟨_, nI_add _ 2, by omega, w - 3, nI_sub1 (b := 3) (by omega), by omega, sb, dfl (by omega) (by omega)⟩
  · have q := swEq (by omega) q
    obtain rfl : w = 7 := by omega
    refine ⟨i, j, X, rfl, rfl, hi, hj, hX, e1 ▸ e2, fun h1 => ?_, fun h1 => ?_⟩
    · have h1 : iB (inA X (μ.1 (r + 1) (3 + 3 * j))) = 0 := h1
      rw [iB_eq0, e1] at h1
      have e : kpV X E j 7 = 0 := iB_0 h1
      rw [e] at h
      exact h
    · have h1 : ¬ iB (inA X (μ.1 (r + 1) (3 + 3 * j))) = 0 := h1
      rw [iB_eq0, Classical.not_not, e1] at h1
      have e : kpV X E j 7 = 1 := iB_1 h1
      rw [e] at h
      exact h
  · have q := swEq (by omega) q
    obtain rfl : w = 8 := by omega
    refine ⟨j, rfl, hj, fun h1 => ?_, fun h1 => ?_⟩
    · have h1 : iB (¬ μ.1 (r + 1) (3 + 3 * j) = -1) = 0 := h1
      rw [iB_eq0, e1, Classical.not_not] at h1
      have e : kpV X E j 8 = -1 := if_pos h1
      rw [e] at h
      exact h
    · have h1 : ¬ iB (¬ μ.1 (r + 1) (3 + 3 * j) = -1) = 0 := h1
      rw [iB_eq0, Classical.not_not, e1] at h1
      have e : kpV X E j 8 = dstC X (E j 0) := if_neg h1
      rw [e] at h
      obtain ⟨n1, n2⟩ := sOK_n e2 h1
      exact ⟨i, j, sN (E j 0), X, rfl, rfl, hi, hj, hX, e1.trans n2, n1, h⟩
def pkV (t : Int32) (p : PK) (w : Nat) : Int32 := if w = 0 then p.1 0 else if w = 1 then p.1 1 else if w = 2 then nI p.2.length else t - p.1 2
def sp_X10_packetValue : SPc := fun As μ K => match As with
  | [.inr (.inr (20, r)), .inl a', .inl w'] => ∃ (a w : Nat) (p : PK), a' = nI a ∧ w' = nI w ∧ w < 4 ∧ a + 86 ≤ 7269 ∧ RP (μ.1 (r + 1)) a p ∧ K (.inl (some (.inl (pkV (μ.1 (r + 1) 0) p w)))) μ
  | _ => False
def ct_X10_packetValue : List (Nat × CI) := []
def ci_X10_packetValue : CI := (yX10_packetValue, cX10_packetValue, 3, some .int, 3, (0, 0, 0, 0), 19, [], sp_X10_packetValue)
set_option maxRecDepth 100000 in
theorem ck_X10_packetValue : chkM ci_X10_packetValue RX10 co_X10_packetValue ct_X10_packetValue [] false false = true := by decide +kernel
set_option maxHeartbeats 4000000 in
set_option maxRecDepth 100000 in
theorem ms_X10_packetValue {g : GPT} {ot : OT} {l : Launch} (hl : l.stackTraces = false) : MS g ot l ci_X10_packetValue := by
  refine ms0_of hl RX10 co_X10_packetValue ct_X10_packetValue [] false false 46 ck_X10_packetValue (fun _ h => nomatch h) ?_
  intro As μ K h
  simp only [ci_X10_packetValue, sp_X10_packetValue] at h
  split at h
  case h_2 => exact h.elim
  rename_i r a' w'
  obtain ⟨a, w, p, rfl, rfl, hw, ha, hp, h⟩ := h
  refine ⟨Nat.le_of_ble_eq_true rfl, fun h1 => ⟨fun h2 => ⟨fun h3 => ?_, fun h3 => ?_⟩, fun h2 => ?_⟩, fun h1 => ?_⟩
  · have h1 : ¬ nI w = nI 0 := h1
    have h2 : ¬ nI w = nI 1 := h2
    have h3 : ¬ nI w = nI 2 := h3
    rw [nI_eq_iff (by omega) (by omega)] at h1 h2 h3
    have e : pkV (μ.1 (r + 1) 0) p w = μ.1 (r + 1) 0 - μ.1 (r + 1) (a + 2) := by unfold pkV; rw [if_neg h1, if_neg h2, if_neg h3, hp.1 2 (by omega)]
    rw [e] at h
    exact ⟨0, rfl, by omega, _, nI_add _ 2, by omega, h⟩
  · have h3 : ¬ ¬ nI w = nI 2 := h3
    rw [nI_eq_iff (by omega) (by omega)] at h3
    obtain rfl : w = 2 := by omega
    have e : pkV (μ.1 (r + 1) 0) p 2 = μ.1 (r + 1) (a + 5) := hp.2.1.symm
    rw [e] at h
    exact ⟨_, nI_add _ 5, by omega, h⟩
  · have h2 : ¬ ¬ nI w = nI 1 := h2
    rw [nI_eq_iff (by omega) (by omega)] at h2
    obtain rfl : w = 1 := by omega
    have e : pkV (μ.1 (r + 1) 0) p 1 = μ.1 (r + 1) (a + 1) := (hp.1 1 (by omega)).symm
    rw [e] at h
    exact ⟨_, nI_add _ 1, by omega, h⟩
  · have h1 : ¬ ¬ nI w = nI 0 := h1
    rw [nI_eq_iff (by omega) (by omega)] at h1
    obtain rfl : w = 0 := by omega
    have e : pkV (μ.1 (r + 1) 0) p 0 = μ.1 (r + 1) (a + 0) := (hp.1 0 (by omega)).symm
    rw [e] at h
    exact ⟨_, nI_add _ 0, by omega, h⟩
def etV (en : EN) (w : Nat) : Int32 := if w = 0 then en 0 else if w = 1 then en 1 else if w = 2 then (if en 0 = 0 then 2 else if en 0 = 1 then 6 else nI (2 + bts (sN (en 3)))) else if w = 3 then en 2 else en 3
/-- an entry as it should be -/
def enOK (en : EN) : Prop := (en 0 = 0 ∨ en 0 = 1 ∨ en 0 = 2) ∧ (∃ e, e < 16 ∧ en 1 = nI e) ∧ (∃ m, m < 16 ∧ en 3 = nI m) ∧ (en 0 = 0 → en 4 = -1) ∧ (¬ en 0 = 0 → ∃ n, n < 524288 ∧ en 4 = nI n)
def sp_X10_entryValue : SPc := fun As μ K => match As with
  | [.inr (.inr (20, r)), .inl a', .inl j', .inl w'] => ∃ (a j w : Nat) (p : PK) (en : EN), a' = nI a ∧ j' = nI j ∧ w' = nI w ∧ w < 5 ∧ a + 86 ≤ 7269 ∧ RP (μ.1 (r + 1)) a p ∧ p.2[j]? = some en ∧ enOK en ∧ K (.inl (some (.inl (etV en w)))) μ
  | _ => False
def ct_X10_entryValue : List (Nat × CI) := [(150, ci_X10_bits)]
def ci_X10_entryValue : CI := (yX10_entryValue, cX10_entryValue, 5, some .int, 4, (1, 0, 0, 20), 19, [], sp_X10_entryValue)
set_option maxRecDepth 100000 in
theorem ck_X10_entryValue : chkM ci_X10_entryValue RX10 co_X10_entryValue ct_X10_entryValue [] false false = true := by decide +kernel
set_option maxHeartbeats 4000000 in
set_option maxRecDepth 100000 in
theorem ms_X10_entryValue {g : GPT} {ot : OT} {l : Launch} (hl : l.stackTraces = false) : MS g ot l ci_X10_entryValue := by
  refine ms0_of hl RX10 co_X10_entryValue ct_X10_entryValue [] false false 61 ck_X10_entryValue (List.forall_mem_cons.mpr ⟨ms_X10_bits hl, fun _ h => nomatch h⟩) ?_
  intro As μ K h
  simp only [ci_X10_entryValue, sp_X10_entryValue] at h
  split at h
  case h_2 => exact h.elim
  rename_i r a' j' w'
  obtain ⟨a, j, w, p, en, rfl, rfl, rfl, hw, ha, hp, hj, hen, h⟩ := h
  have hj2 : j < p.2.length := (List.getElem?_eq_some_iff.mp hj).1
  have hl := hp.2.2.1
  have hc := hp.2.2.2 j en hj
  have ix : nI a + Int32.ofInt 6 + Int32.ofInt 5 * nI j = nI (a + 6 + 5 * j) := by simp only [iL, nI_add, nI_mul]
  have c0 : μ.1 (r + 1) (a + 6 + 5 * j) = en 0 := hc 0 (by omega)
  have dfl : w = 0 ∨ w = 1 → ∃ k, nI a + Int32.ofInt 6 + Int32.ofInt 5 * nI j + nI w = nI k ∧ k < 7269 ∧ K (.inl (some (.inl (μ.1 (r + 1) k)))) μ := fun g => by
    refine ⟨a + 6 + 5 * j + w, by rw [ix, nI_add], by omega, ?_⟩
    rw [hc w (by omega)]
    rcases g with rfl | rfl
    · exact h
    · exact h
  refine ⟨Nat.le_of_ble_eq_true rfl, fun q => dfl ?_, fun q => ⟨_, ix, by omega, fun h1 => ⟨_, ix, by omega, fun h2 => ?_, fun h2 => ?_⟩, fun h1 => ?_⟩, fun q => ?_, fun q => ?_, trivial⟩
  · have q := swOut (by omega) q
    omega
  · have q := swEq (by omega) q
    obtain rfl : w = 2 := by omega
    obtain ⟨m, hm, hm2⟩ := hen.2.2.1
    have h1 : ¬ μ.1 (r + 1) (a + 6 + 5 * j) = 0 := h1
    have h2 : ¬ μ.1 (r + 1) (a + 6 + 5 * j) = 1 := h2
    rw [c0] at h1 h2
    have e : etV en 2 = nI (2 + bts m) := by
      show (if en 0 = 0 then 2 else if en 0 = 1 then 6 else nI (2 + bts (sN (en 3)))) = _
      rw [if_neg h1, if_neg h2, hm2, sN_nI (by omega)]
    rw [e, ← nI_add] at h
    exact ⟨a + 6 + 5 * j + 3, by rw [ix]; exact nI_add _ 3, by omega, m, (hc 3 (by omega)).trans hm2, hm, h⟩
  · have q := swEq (by omega) q
    obtain rfl : w = 2 := by omega
    have h1 : ¬ μ.1 (r + 1) (a + 6 + 5 * j) = 0 := h1
    have h2 : ¬ ¬ μ.1 (r + 1) (a + 6 + 5 * j) = 1 := h2
    rw [c0] at h1 h2
    have e : etV en 2 = 6 := by
      show (if en 0 = 0 then 2 else if en 0 = 1 then 6 else nI (2 + bts (sN (en 3)))) = _
      rw [if_neg h1, if_pos (Classical.not_not.mp h2)]
    rw [e] at h
    exact h
  · have q := swEq (by omega) q
    obtain rfl : w = 2 := by omega
    have h1 : ¬ ¬ μ.1 (r + 1) (a + 6 + 5 * j) = 0 := h1
    rw [c0] at h1
    have e : etV en 2 = 2 := by
      show (if en 0 = 0 then 2 else if en 0 = 1 then 6 else nI (2 + bts (sN (en 3)))) = _
      rw [if_pos (Classical.not_not.mp h1)]
    rw [e] at h
    exact h
  · have q := swEq (by omega) q
    obtain rfl : w = 3 := by omega
    have e : etV en 3 = μ.1 (r + 1) (a + 6 + 5 * j + 2) := (hc 2 (by omega)).symm
    rw [e] at h
    exact ⟨_, (by rw [ix]; exact nI_add _ 2), by omega, h⟩
  · have q := swEq (by omega) q
    obtain rfl : w = 4 := by omega
    have e : etV en 4 = μ.1 (r + 1) (a + 6 + 5 * j + 3) := (hc 3 (by omega)).symm
    rw [e] at h
    exact ⟨_, (by rw [ix]; exact nI_add _ 3), by omega, h⟩
end
section
theorem flyL_at {l : List PK} {k : Nat} {p : PK} (h : l[k]? = some p) (hp : fly p) : (l.filter fun p => decide (fly p))[flyN (l.take k)]? = some p := by
  have e : l = l.take k ++ (p :: l.drop (k + 1)) := by
    obtain ⟨h1, h2⟩ := List.getElem?_eq_some_iff.mp h
    rw [← h2, ← List.drop_eq_getElem_cons h1, List.take_append_drop]
  have e2 : (l.filter fun p => decide (fly p)) = ((l.take k).filter fun p => decide (fly p)) ++ (p :: ((l.drop (k + 1)).filter fun p => decide (fly p))) := by
    conv => lhs; rw [e]
    rw [List.filter_append]
    congr 1
    exact List.filter_cons_of_pos (decide_eq_true hp)
  rw [e2]
  unfold flyN
  rw [List.getElem?_append_right (Nat.le_refl _), Nat.sub_self]
  rfl
theorem flyN_S {l : List PK} {k : Nat} {p : PK} (h : l[k]? = some p) : flyN (l.take (k + 1)) = flyN (l.take k) + (if fly p then 1 else 0) := by
  have ht : l.take (k + 1) = l.take k ++ [p] := by rw [List.take_add_one, h]; rfl
  unfold flyN
  rw [ht, List.filter_append, List.length_append]
  congr 1
  by_cases hp : fly p
  · simp [fly, hp]
  · simp [fly, hp]
theorem sub_sub32 (a b c : Int32) : a - b - c = a - (b + c) := by
  rw [Int32.sub_eq_add_neg, Int32.sub_eq_add_neg, Int32.sub_eq_add_neg, Int32.neg_add, Int32.add_assoc, Int32.sub_eq_add_neg]
theorem sub_eq0 {a b : Int32} (h : a - b = 0) : a = b := by
  have := congrArg (· + b) h
  simpa using this
def sp_X10_flyingCell : SPc := fun As μ K => match As with
  | [.inr (.inr (20, r)), .inl c, .inl x] => ∃ (i : Nat) (X : CS), c = nI i ∧ i < 3 ∧ RC (μ.1 (r + 1)) i X ∧ (∀ (a j : Nat) (p : PK), x = nI j → (flyL X)[j]? = some p → p ∈ cP X → RP (μ.1 (r + 1)) a p → 0 < a → a + 86 ≤ 7269 → K (.inl (some (.inl (nI a)))) μ) ∧ ((∀ j, j < flyN (cP X) → ¬ x = nI j) → K (.inl (some (.inl (-1)))) μ)
  | _ => False
def ct_X10_flyingCell : List (Nat × CI) := [(80, ci_X10_of), (125, ci_X10_packetCell)]
def ci_X10_flyingCell : CI := (yX10_flyingCell, cX10_flyingCell, 6, some .int, 3, (2, 0, 0, 43), 19, [], sp_X10_flyingCell)
set_option maxRecDepth 100000 in
theorem ck_X10_flyingCell : chkM ci_X10_flyingCell RX10 co_X10_flyingCell ct_X10_flyingCell [] false false = true := by decide +kernel
set_option maxHeartbeats 4000000 in
set_option maxRecDepth 100000 in
theorem ms_X10_flyingCell {g : GPT} {ot : OT} {l : Launch} (hl : l.stackTraces = false) : MS g ot l ci_X10_flyingCell := by
  refine ms_of hl RX10 co_X10_flyingCell ct_X10_flyingCell [] false false [5] 37 ck_X10_flyingCell (List.forall_mem_cons.mpr ⟨ms_X10_of hl, List.forall_mem_cons.mpr ⟨ms_X10_packetCell hl, fun _ h => nomatch h⟩⟩) ?_
  intro As μ K h
  simp only [ci_X10_flyingCell, sp_X10_flyingCell] at h
  split at h
  case h_2 => exact h.elim
  rename_i r c x
  obtain ⟨i, X, rfl, hi, hX, hK1, hK2⟩ := h
  have hl := hX.2.2.1.1
  have hl2 := hX.2.2.1.2.1
  refine ⟨Nat.le_of_ble_eq_true rfl, fun m pc lc st μ' ce sl => ∃ k, k ≤ (cP X).length ∧ m = (cP X).length - k ∧ pc = 5 ∧ lc = [some (.inr (.inr (20, r))), some (.inl (nI i)), none, some (.inl (x - nI (flyN ((cP X).take k)))), some (.inl (nI k)), none] ∧ st = [] ∧ μ = μ' ∧ ce = 0 ∧ sl = 0 ∧ ∀ j, j < flyN ((cP X).take k) → ¬ x = nI j, ?_, ?_⟩
  · refine ⟨(cP X).length, [some (.inr (.inr (20, r))), some (.inl (nI i)), none, some (.inl x), some (.inl (nI 0)), none], ⟨rfl, rfl, rfl, rfl, trivial⟩, 0, Nat.zero_le _, rfl, rfl, ?_, rfl, rfl, rfl, rfl, fun j hj => absurd hj (Nat.not_lt_zero _)⟩
    have e : x - nI (flyN ((cP X).take 0)) = x := by show x - 0 = x; exact Int32.sub_zero x
    rw [e]
  · rintro m pc lc st μ' ce sl ⟨k, hk, rfl, rfl, rfl, rfl, rfl, rfl, rfl, hx⟩
    refine ⟨i, 65, rfl, rfl, by omega, fun h1 => ?_, fun h1 => ?_⟩
    · simp only [icP, hl] at h1
      rw [nI_le_iff (by omega) (by omega)] at h1
      rw [List.take_of_length_le (by omega)] at hx
      exact hK2 hx
    · simp only [icP, hl] at h1
      rw [nI_le_iff (by omega) (by omega)] at h1
      obtain ⟨p, hp⟩ := at_of_lt (l := cP X) (k := k) (by omega)
      have hrp := hX.pk hp
      have h4 := hrp.1 4 (by omega)
      have hs := flyN_S hp
      refine ⟨i, k, rfl, rfl, _, nI_add _ 4, by omega, fun h2 => ?_, fun h2 => ⟨fun h3 => ?_, fun h3 => ?_⟩⟩
      · have h2 : ¬ μ.1 (r + 1) (51 + 2406 * i + (66 + 86 * k) + 4) = 1 := h2
        rw [h4] at h2
        rw [if_neg h2] at hs
        refine ⟨(cP X).length - (k + 1), [some (.inr (.inr (20, r))), some (.inl (nI i)), none, some (.inl (x - nI (flyN ((cP X).take (k + 1))))), some (.inl (nI (k + 1))), none], by omega, ⟨rfl, rfl, ?_, inc_tv k, trivial⟩, k + 1, by omega, rfl, rfl, rfl, rfl, rfl, rfl, rfl, ?_⟩
        · rw [hs]; rfl
        · rw [hs]; exact hx
      · have h2 : ¬ ¬ μ.1 (r + 1) (51 + 2406 * i + (66 + 86 * k) + 4) = 1 := h2
        rw [h4, Classical.not_not] at h2
        rw [if_pos h2] at hs
        have h3 : ¬ x - nI (flyN ((cP X).take k)) = 0 := h3
        have h3 : ¬ x = nI (flyN ((cP X).take k)) := fun q => h3 (by rw [q, Int32.sub_self])
        refine ⟨(cP X).length - (k + 1), [some (.inr (.inr (20, r))), some (.inl (nI i)), none, some (.inl (x - nI (flyN ((cP X).take (k + 1))))), some (.inl (nI (k + 1))), none], by omega, ⟨rfl, rfl, ?_, inc_tv k, trivial⟩, k + 1, by omega, rfl, rfl, rfl, rfl, rfl, rfl, rfl, ?_⟩
        · rw [hs]
          have e : x - nI (flyN ((cP X).take k) + 1) = x - nI (flyN ((cP X).take k)) + Int32.ofInt (-1) := by
            rw [nI_succ, ← sub_sub32, iM1]
            exact Int32.sub_eq_add_neg _ _
          rw [e]
        · rw [hs]
          intro j hj
          by_cases hj2 : j = flyN ((cP X).take k)
          · subst hj2; exact h3
          · exact hx j (by omega)
      · have h2 : ¬ ¬ μ.1 (r + 1) (51 + 2406 * i + (66 + 86 * k) + 4) = 1 := h2
        rw [h4, Classical.not_not] at h2
        have h3 : ¬ ¬ x - nI (flyN ((cP X).take k)) = 0 := h3
        have h3 : x = nI (flyN ((cP X).take k)) := sub_eq0 (Classical.not_not.mp h3)
        exact hK1 _ _ p h3 (flyL_at hp h2) (List.mem_of_getElem? hp) hrp (by omega) (by omega)
def enV (E : Nat → Nat → Int32) (e w : Nat) : Int32 := if w = 0 then iB (¬ E e 0 = -1) else if w < 5 then nI (pz (E e 0) (w - 1)) else E e (w - 4)
def sp_X10_entityValue : SPc := fun As μ K => match As with
  | [.inr (.inr (20, r)), .inl e, .inl w'] => ∃ (j w : Nat) (E : Nat → Nat → Int32), e = nI j ∧ w' = nI w ∧ j < 16 ∧ w < 7 ∧ (∀ k, k < 3 → μ.1 (r + 1) (3 + 3 * j + k) = E j k) ∧ sOK (E j 0) ∧ K (.inl (some (.inl (enV E j w)))) μ
  | _ => False
def ct_X10_entityValue : List (Nat × CI) := [(68, ci_X10_exists), (53, ci_X10_stateOf), (71, ci_X10_partOrZero)]
def ci_X10_entityValue : CI := (yX10_entityValue, cX10_entityValue, 3, some .int, 3, (2, 0, 0, 42), 19, [], sp_X10_entityValue)
set_option maxRecDepth 100000 in
theorem ck_X10_entityValue : chkM ci_X10_entityValue RX10 co_X10_entityValue ct_X10_entityValue [] false false = true := by decide +kernel
set_option maxHeartbeats 4000000 in
set_option maxRecDepth 100000 in
theorem ms_X10_entityValue {g : GPT} {ot : OT} {l : Launch} (hl : l.stackTraces = false) : MS g ot l ci_X10_entityValue := by
  refine ms0_of hl RX10 co_X10_entityValue ct_X10_entityValue [] false false 39 ck_X10_entityValue (List.forall_mem_cons.mpr ⟨ms_X10_exists hl, List.forall_mem_cons.mpr ⟨ms_X10_stateOf hl, List.forall_mem_cons.mpr ⟨ms_X10_partOrZero hl, fun _ h => nomatch h⟩⟩⟩) ?_
  intro As μ K h
  simp only [ci_X10_entityValue, sp_X10_entityValue] at h
  split at h
  case h_2 => exact h.elim
  rename_i r e w'
  obtain ⟨j, w, E, rfl, rfl, hj, hw, hE, hs, h⟩ := h
  have e0 : μ.1 (r + 1) (3 + 3 * j) = E j 0 := hE 0 (by omega)
  refine ⟨Nat.le_of_ble_eq_true rfl, fun h1 => ⟨fun h2 => ?_, fun h2 => ?_⟩, fun h1 => ⟨j, rfl, hj, fun h2 => ?_, fun h2 => ?_⟩⟩
  · have h1 : ¬ nI w = nI 0 := h1
    have h2 : nI 5 ≤ nI w := h2
    rw [nI_eq_iff (by omega) (by omega)] at h1
    rw [nI_le_iff (by omega) (by omega)] at h2
    have e : enV E j w = μ.1 (r + 1) (3 + 3 * j + w - 4) := by
      unfold enV
      rw [if_neg h1, if_neg (by omega)]
      have := hE (w - 4) (by omega)
      rw [← this]
      have e3 : 3 + 3 * j + (w - 4) = 3 + 3 * j + w - 4 := by omega
      rw [e3]
    rw [e] at h
    refine ⟨3 + 3 * j + w - 4, ?_, by omega, h⟩
    show nI 3 + nI 3 * nI j + nI w - nI 4 = _
    rw [nI_mul, nI_add, nI_add, nI_sub1 (by omega)]
  · have h1 : ¬ nI w = nI 0 := h1
    have h2 : ¬ nI 5 ≤ nI w := h2
    rw [nI_eq_iff (by omega) (by omega)] at h1
    rw [nI_le_iff (by omega) (by omega)] at h2
    have e : enV E j w = nI (pz (μ.1 (r + 1) (3 + 3 * j)) (w - 1)) := by
      unfold enV
      rw [if_neg h1, if_pos (by omega), e0]
    rw [e] at h
    exact ⟨j, rfl, hj, w - 1, nI_sub1 (b := 1) (by omega), by omega, e0 ▸ hs, h⟩
  · have h1 : ¬ ¬ nI w = nI 0 := h1
    rw [nI_eq_iff (by omega) (by omega)] at h1
    obtain rfl : w = 0 := by omega
    have h2 : iB (¬ μ.1 (r + 1) (3 + 3 * j) = -1) = 0 := h2
    rw [iB_eq0, e0] at h2
    have e : enV E j 0 = 0 := iB_0 h2
    rw [e] at h
    exact h
  · have h1 : ¬ ¬ nI w = nI 0 := h1
    rw [nI_eq_iff (by omega) (by omega)] at h1
    obtain rfl : w = 0 := by omega
    have h2 : ¬ iB (¬ μ.1 (r + 1) (3 + 3 * j) = -1) = 0 := h2
    rw [iB_eq0, Classical.not_not, e0] at h2
    have e : enV E j 0 = 1 := iB_1 h2
    rw [e] at h
    exact h
/-! the digest's parts -/
def hs (h : Int64) (v : Int32) : Int64 := Int64.ofNat 31 * h + v.toInt64
def hsR (F : Nat → Int32) (h : Int64) : Nat → Int64
  | 0 => h
  | n + 1 => hs (hsR F h n) (F n)
def hW (μ : MM) (r : Nat) (h : Int64) : MM := (μ.1, μ.2.1, up2 μ.2.2.1 r 7 h, μ.2.2.2)
theorem hW_at (μ : MM) (r : Nat) (h : Int64) : (hW μ r h).2.2.1 r 7 = h := by simp [hW, up2]
theorem hW_hW (μ : MM) (r : Nat) (h g : Int64) : hW (hW μ r h) r g = hW μ r g := by
  have e : up2 (up2 μ.2.2.1 r 7 h) r 7 g = up2 μ.2.2.1 r 7 g := by
    funext b k
    unfold up2
    by_cases q : b = r ∧ k = 7 <;> simp [q]
  show (μ.1, μ.2.1, up2 (up2 μ.2.2.1 r 7 h) r 7 g, μ.2.2.2) = _
  rw [e]
  rfl
theorem hW_self (μ : MM) (r : Nat) : hW μ r (μ.2.2.1 r 7) = μ := by
  have e : up2 μ.2.2.1 r 7 (μ.2.2.1 r 7) = μ.2.2.1 := by
    funext b k
    unfold up2
    split
    · next q => rw [q.1, q.2]
    · rfl
  show (μ.1, μ.2.1, up2 μ.2.2.1 r 7 (μ.2.2.1 r 7), μ.2.2.2) = μ
  rw [e]
def sp_X10_mix : SPc := fun As μ K => match As with
  | [.inr (.inr (20, r)), .inr (.inl v)] => K (.inl none) (hW μ r (Int64.ofNat 31 * μ.2.2.1 r 7 + v))
  | _ => False
def ct_X10_mix : List (Nat × CI) := []
def ci_X10_mix : CI := (yX10_mix, cX10_mix, 3, none, 2, (0, 0, 0, 0), 19, [], sp_X10_mix)
set_option maxRecDepth 100000 in
theorem ck_X10_mix : chkM ci_X10_mix RX10 co_X10_mix ct_X10_mix [] false false = true := by decide +kernel
set_option maxHeartbeats 4000000 in
set_option maxRecDepth 100000 in
theorem ms_X10_mix {g : GPT} {ot : OT} {l : Launch} (hl : l.stackTraces = false) : MS g ot l ci_X10_mix := by
  refine ms0_of hl RX10 co_X10_mix ct_X10_mix [] false false 14 ck_X10_mix (fun _ h => nomatch h) ?_
  intro As μ K h
  simp only [ci_X10_mix, sp_X10_mix] at h
  split at h
  case h_2 => exact h.elim
  exact ⟨Nat.le_of_ble_eq_true rfl, h⟩
def dgE (X : CS) (E : Nat → Nat → Int32) (e : Nat) (b : Prop) [Decidable b] (h : Int64) : Int64 := if b then hs (hsR (kpV X E e) (hsR (cpV (cR X e)) h 7) 9) (nI (prc X E e)) else hsR (cpV (cR X e)) h 7
def sp_X10_mixEntity : SPc := fun As μ K => match As with
  | [.inr (.inr (20, r)), .inl c, .inl e, .inl b] => ∃ (i j : Nat) (X : CS) (E : Nat → Nat → Int32), c = nI i ∧ e = nI j ∧ i < 3 ∧ j < 16 ∧ RC (μ.1 (r + 1)) i X ∧ (μ.1 (r + 1) (3 + 3 * j) = E j 0 ∧ sOK (E j 0)) ∧ sOK (cB X j 2) ∧ (∀ q ∈ cR X j, sOK q.2) ∧ K (.inl none) (hW μ r (dgE X E j (¬ b = 0) (μ.2.2.1 r 7)))
  | _ => False
def ct_X10_mixEntity : List (Nat × CI) := [(192, ci_X10_copyValue), (222, ci_X10_mix), (195, ci_X10_keptValue), (156, ci_X10_priceOf)]
def ci_X10_mixEntity : CI := (yX10_mixEntity, cX10_mixEntity, 5, none, 4, (5, 0, 0, 113), 19, [], sp_X10_mixEntity)
set_option maxRecDepth 100000 in
theorem ck_X10_mixEntity : chkM ci_X10_mixEntity RX10 co_X10_mixEntity ct_X10_mixEntity [] false false = true := by decide +kernel
set_option maxHeartbeats 4000000 in
set_option maxRecDepth 100000 in
theorem ms_X10_mixEntity {g : GPT} {ot : OT} {l : Launch} (hl : l.stackTraces = false) : MS g ot l ci_X10_mixEntity := by
  refine ms_of hl RX10 co_X10_mixEntity ct_X10_mixEntity [] false false [3,32] 47 ck_X10_mixEntity (List.forall_mem_cons.mpr ⟨ms_X10_copyValue hl, List.forall_mem_cons.mpr ⟨ms_X10_mix hl, List.forall_mem_cons.mpr ⟨ms_X10_keptValue hl, List.forall_mem_cons.mpr ⟨ms_X10_priceOf hl, fun _ h => nomatch h⟩⟩⟩⟩) ?_
  intro As μ K h
  simp only [ci_X10_mixEntity, sp_X10_mixEntity] at h
  split at h
  case h_2 => exact h.elim
  rename_i r c e b
  obtain ⟨i, j, X, E, rfl, rfl, hi, hj, hX, hE, hB, hR, h⟩ := h
  refine ⟨Nat.le_of_ble_eq_true rfl, fun m pc lc st μ' ce sl => (∃ k, k ≤ 7 ∧ m = 20 - k ∧ pc = 3 ∧ lc = [some (.inr (.inr (20, r))), some (.inl (nI i)), some (.inl (nI j)), some (.inl b), some (.inl (nI k))] ∧ st = [] ∧ μ' = hW μ r (hsR (cpV (cR X j)) (μ.2.2.1 r 7) k) ∧ ce = 0 ∧ sl = 0) ∨ (∃ k, k ≤ 9 ∧ (k = 0 ∨ ¬ b = 0) ∧ m = 9 - k ∧ pc = 32 ∧ lc = [some (.inr (.inr (20, r))), some (.inl (nI i)), some (.inl (nI j)), some (.inl b), some (.inl (nI k))] ∧ st = [] ∧ μ' = hW μ r (hsR (kpV X E j) (hsR (cpV (cR X j)) (μ.2.2.1 r 7) 7) k) ∧ ce = 0 ∧ sl = 0), ?_, ?_⟩
  · refine ⟨20, [some (.inr (.inr (20, r))), some (.inl (nI i)), some (.inl (nI j)), some (.inl b), some (.inl (nI 0))], ⟨rfl, rfl, rfl, rfl, rfl, trivial⟩, Or.inl ⟨0, Nat.zero_le _, rfl, rfl, rfl, rfl, ?_, rfl, rfl⟩⟩
    exact (hW_self μ r).symm
  · rintro m pc lc st μ' ce sl (⟨k, hk, rfl, rfl, rfl, rfl, rfl, rfl, rfl⟩ | ⟨k, hk, hkb, rfl, rfl, rfl, rfl, rfl, rfl, rfl⟩)
    · refine ⟨fun h1 => ?_, fun h1 => ?_⟩
      · simp only [icP, ifP, iL, iM1] at h1
        try simp only [z_nI] at h1
        try simp only [nI_add, nI_mul] at h1
        first | rw [nI_le_iff (by omega) (by omega)] at h1 | rw [nI_lt_iff (by omega) (by omega)] at h1 | rw [nI_eq_iff (by omega) (by omega)] at h1
        obtain rfl : k = 7 := by omega
        exact ⟨9, [some (.inr (.inr (20, r))), some (.inl (nI i)), some (.inl (nI j)), some (.inl b), some (.inl (nI 0))], by omega, ⟨rfl, rfl, rfl, rfl, rfl, trivial⟩, Or.inr ⟨0, Nat.zero_le _, Or.inl rfl, rfl, rfl, rfl, rfl, rfl, rfl, rfl⟩⟩
      · simp only [icP, ifP, iL, iM1] at h1
        try simp only [z_nI] at h1
        try simp only [nI_add, nI_mul] at h1
        first | rw [nI_le_iff (by omega) (by omega)] at h1 | rw [nI_lt_iff (by omega) (by omega)] at h1 | rw [nI_eq_iff (by omega) (by omega)] at h1
        refine ⟨i, j, k, cR X j, rfl, rfl, rfl, hi, hj, by omega, hX.2.2.2.2 j hj, hR, 20 - (k + 1), [some (.inr (.inr (20, r))), some (.inl (nI i)), some (.inl (nI j)), some (.inl b), some (.inl (nI (k + 1)))], by omega, ⟨rfl, rfl, rfl, rfl, inc_tv k, trivial⟩, Or.inl ⟨k + 1, by omega, rfl, rfl, rfl, rfl, ?_, rfl, rfl⟩⟩
        rw [hW_hW, hW_at]
        rfl
    · refine ⟨fun h1 => ?_, fun h1 => ⟨fun h2 => ?_, fun h2 => ?_⟩⟩
      · simp only [icP, ifP, iL, iM1] at h1
        try simp only [z_nI] at h1
        try simp only [nI_add, nI_mul] at h1
        first | rw [nI_le_iff (by omega) (by omega)] at h1 | rw [nI_lt_iff (by omega) (by omega)] at h1 | rw [nI_eq_iff (by omega) (by omega)] at h1
        obtain rfl : k = 9 := by omega
        have hb : ¬ b = 0 := hkb.resolve_left (by omega)
        refine ⟨fun h2 => absurd h2 hb, fun h2 => ⟨i, j, X, E, rfl, rfl, hi, hj, hX, hE, hB, ?_⟩⟩
        show K _ (hW (hW μ r _) r (Int64.ofNat 31 * (hW μ r _).2.2.1 r 7 + _))
        rw [hW_hW, hW_at]
        have e : dgE X E j (¬ b = 0) (μ.2.2.1 r 7) = hs (hsR (kpV X E j) (hsR (cpV (cR X j)) (μ.2.2.1 r 7) 7) 9) (nI (prc X E j)) := if_pos hb
        rw [e] at h
        exact h
      · have h2 : b = 0 := h2
        obtain rfl : k = 0 := hkb.resolve_right (fun q => q h2)
        refine ⟨fun h3 => ?_, fun h3 => absurd h2 h3⟩
        have e : dgE X E j (¬ b = 0) (μ.2.2.1 r 7) = hsR (cpV (cR X j)) (μ.2.2.1 r 7) 7 := if_neg (fun q => q h2)
        rw [e] at h
        exact h
      · have h2 : ¬ b = 0 := h2
        simp only [icP, ifP, iL, iM1] at h1
        try simp only [z_nI] at h1
        try simp only [nI_add, nI_mul] at h1
        first | rw [nI_le_iff (by omega) (by omega)] at h1 | rw [nI_lt_iff (by omega) (by omega)] at h1 | rw [nI_eq_iff (by omega) (by omega)] at h1
        refine ⟨i, j, k, X, E, rfl, rfl, rfl, hi, hj, by omega, hX, hE, hB, 9 - (k + 1), [some (.inr (.inr (20, r))), some (.inl (nI i)), some (.inl (nI j)), some (.inl b), some (.inl (nI (k + 1)))], by omega, ⟨rfl, rfl, rfl, rfl, inc_tv k, trivial⟩, Or.inr ⟨k + 1, by omega, Or.inr h2, rfl, rfl, rfl, rfl, ?_, rfl, rfl⟩⟩
        rw [hW_hW, hW_at]
        rfl
def dgL (l : List EN) (h : Int64) : Int64 := l.foldl (fun h en => hsR (etV en) h 5) h
def dgP (t : Int32) (p : PK) (h : Int64) : Int64 := dgL p.2 (hsR (pkV t p) h 4)
theorem dgL_S {l : List EN} {k : Nat} {en : EN} (h : l[k]? = some en) (x : Int64) : dgL (l.take (k + 1)) x = hsR (etV en) (dgL (l.take k) x) 5 := by
  have ht : l.take (k + 1) = l.take k ++ [en] := by rw [List.take_add_one, h]; rfl
  unfold dgL
  rw [ht, List.foldl_append]
  rfl
def sp_X10_mixPacket : SPc := fun As μ K => match As with
  | [.inr (.inr (20, r)), .inl a'] => ∃ (a : Nat) (p : PK), a' = nI a ∧ a + 86 ≤ 7269 ∧ RP (μ.1 (r + 1)) a p ∧ (∀ en ∈ p.2, enOK en) ∧ K (.inl none) (hW μ r (dgP (μ.1 (r + 1) 0) p (μ.2.2.1 r 7)))
  | _ => False
def ct_X10_mixPacket : List (Nat × CI) := [(210, ci_X10_packetValue), (222, ci_X10_mix), (213, ci_X10_entryValue)]
def ci_X10_mixPacket : CI := (yX10_mixPacket, cX10_mixPacket, 4, none, 2, (2, 0, 0, 44), 19, [], sp_X10_mixPacket)
set_option maxRecDepth 100000 in
theorem ck_X10_mixPacket : chkM ci_X10_mixPacket RX10 co_X10_mixPacket ct_X10_mixPacket [] false false = true := by decide +kernel
set_option maxHeartbeats 4000000 in
set_option maxRecDepth 100000 in
theorem ms_X10_mixPacket {g : GPT} {ot : OT} {l : Launch} (hl : l.stackTraces = false) : MS g ot l ci_X10_mixPacket := by
  refine ms_of hl RX10 co_X10_mixPacket ct_X10_mixPacket [] false false [2,26,40] 47 ck_X10_mixPacket (List.forall_mem_cons.mpr ⟨ms_X10_packetValue hl, List.forall_mem_cons.mpr ⟨ms_X10_mix hl, List.forall_mem_cons.mpr ⟨ms_X10_entryValue hl, fun _ h => nomatch h⟩⟩⟩) ?_
  intro As μ K h
  simp only [ci_X10_mixPacket, sp_X10_mixPacket] at h
  split at h
  case h_2 => exact h.elim
  rename_i r a'
  obtain ⟨a, p, rfl, ha, hp, hen, h⟩ := h
  have hl := hp.2.1
  have hl2 := hp.2.2.1
  refine ⟨Nat.le_of_ble_eq_true rfl, fun m pc lc st μ' ce sl => (∃ k, k ≤ 4 ∧ m = 300 - k ∧ pc = 2 ∧ lc = [some (.inr (.inr (20, r))), some (.inl (nI a)), some (.inl (nI k)), none] ∧ st = [] ∧ μ' = hW μ r (hsR (pkV (μ.1 (r + 1) 0) p) (μ.2.2.1 r 7) k) ∧ ce = 0 ∧ sl = 0) ∨ (∃ k, k ≤ p.2.length ∧ m = 200 - 7 * k ∧ pc = 26 ∧ lc = [some (.inr (.inr (20, r))), some (.inl (nI a)), some (.inl (nI k)), none] ∧ st = [] ∧ μ' = hW μ r (dgL (p.2.take k) (hsR (pkV (μ.1 (r + 1) 0) p) (μ.2.2.1 r 7) 4)) ∧ ce = 0 ∧ sl = 0) ∨ (∃ k en z, p.2[k]? = some en ∧ z ≤ 5 ∧ m = 200 - 7 * k - 1 - z ∧ pc = 40 ∧ lc = [some (.inr (.inr (20, r))), some (.inl (nI a)), some (.inl (nI k)), some (.inl (nI z))] ∧ st = [] ∧ μ' = hW μ r (hsR (etV en) (dgL (p.2.take k) (hsR (pkV (μ.1 (r + 1) 0) p) (μ.2.2.1 r 7) 4)) z) ∧ ce = 0 ∧ sl = 0), ?_, ?_⟩
  · refine ⟨300, [some (.inr (.inr (20, r))), some (.inl (nI a)), some (.inl (nI 0)), none], ⟨rfl, rfl, rfl, trivial⟩, Or.inl ⟨0, Nat.zero_le _, rfl, rfl, rfl, rfl, ?_, rfl, rfl⟩⟩
    exact (hW_self μ r).symm
  · rintro m pc lc st μ' ce sl (⟨k, hk, rfl, rfl, rfl, rfl, rfl, rfl, rfl⟩ | ⟨k, hk, rfl, rfl, rfl, rfl, rfl, rfl, rfl⟩ | ⟨k, en, z, hk, hz, rfl, rfl, rfl, rfl, rfl, rfl, rfl⟩)
    · refine ⟨fun h1 => ?_, fun h1 => ?_⟩
      · simp only [icP, ifP, iL, iM1] at h1
        try simp only [z_nI] at h1
        try simp only [nI_add, nI_mul] at h1
        first | rw [nI_le_iff (by omega) (by omega)] at h1 | rw [nI_lt_iff (by omega) (by omega)] at h1 | rw [nI_eq_iff (by omega) (by omega)] at h1
        obtain rfl : k = 4 := by omega
        exact ⟨200, [some (.inr (.inr (20, r))), some (.inl (nI a)), some (.inl (nI 0)), none], by omega, ⟨rfl, rfl, rfl, trivial⟩, Or.inr (Or.inl ⟨0, Nat.zero_le _, rfl, rfl, rfl, rfl, rfl, rfl, rfl⟩)⟩
      · simp only [icP, ifP, iL, iM1] at h1
        try simp only [z_nI] at h1
        try simp only [nI_add, nI_mul] at h1
        first | rw [nI_le_iff (by omega) (by omega)] at h1 | rw [nI_lt_iff (by omega) (by omega)] at h1 | rw [nI_eq_iff (by omega) (by omega)] at h1
        refine ⟨a, k, p, rfl, rfl, by omega, ha, hp, 300 - (k + 1), [some (.inr (.inr (20, r))), some (.inl (nI a)), some (.inl (nI (k + 1))), none], by omega, ⟨rfl, rfl, inc_tv k, trivial⟩, Or.inl ⟨k + 1, by omega, rfl, rfl, rfl, rfl, ?_, rfl, rfl⟩⟩
        rw [hW_hW, hW_at]
        rfl
    · refine ⟨_, nI_add _ 5, by omega, fun h1 => ?_, fun h1 => ?_⟩
      · have h1 : μ.1 (r + 1) (a + 5) ≤ nI k := h1
        rw [hl, nI_le_iff (by omega) (by omega)] at h1
        rw [List.take_of_length_le (by omega)]
        exact h
      · have h1 : ¬ μ.1 (r + 1) (a + 5) ≤ nI k := h1
        rw [hl, nI_le_iff (by omega) (by omega)] at h1
        obtain ⟨en, hk2⟩ := at_of_lt (l := p.2) (k := k) (by omega)
        exact ⟨200 - 7 * k - 1, [some (.inr (.inr (20, r))), some (.inl (nI a)), some (.inl (nI k)), some (.inl (nI 0))], by omega, ⟨rfl, rfl, rfl, rfl, trivial⟩, Or.inr (Or.inr ⟨k, en, 0, hk2, Nat.zero_le _, rfl, rfl, rfl, rfl, rfl, rfl, rfl⟩)⟩
    · have hk2 : k < p.2.length := (List.getElem?_eq_some_iff.mp hk).1
      refine ⟨fun h1 => ?_, fun h1 => ?_⟩
      · simp only [icP, ifP, iL, iM1] at h1
        try simp only [z_nI] at h1
        try simp only [nI_add, nI_mul] at h1
        first | rw [nI_le_iff (by omega) (by omega)] at h1 | rw [nI_lt_iff (by omega) (by omega)] at h1 | rw [nI_eq_iff (by omega) (by omega)] at h1
        obtain rfl : z = 5 := by omega
        refine ⟨200 - 7 * (k + 1), [some (.inr (.inr (20, r))), some (.inl (nI a)), some (.inl (nI (k + 1))), none], by omega, ⟨rfl, rfl, inc_tv k, trivial⟩, Or.inr (Or.inl ⟨k + 1, by omega, rfl, rfl, rfl, rfl, ?_, rfl, rfl⟩)⟩
        rw [dgL_S hk]
      · simp only [icP, ifP, iL, iM1] at h1
        try simp only [z_nI] at h1
        try simp only [nI_add, nI_mul] at h1
        first | rw [nI_le_iff (by omega) (by omega)] at h1 | rw [nI_lt_iff (by omega) (by omega)] at h1 | rw [nI_eq_iff (by omega) (by omega)] at h1
        refine ⟨a, k, z, p, en, rfl, rfl, rfl, by omega, ha, hp, hk, hen en (List.mem_of_getElem? hk), 200 - 7 * k - 1 - (z + 1), [some (.inr (.inr (20, r))), some (.inl (nI a)), some (.inl (nI k)), some (.inl (nI (z + 1)))], by omega, ⟨rfl, rfl, rfl, inc_tv z, trivial⟩, Or.inr (Or.inr ⟨k, en, z + 1, hk, by omega, rfl, rfl, rfl, rfl, ?_, rfl, rfl⟩)⟩
        rw [hW_hW, hW_at]
        rfl
def dgR (F : Nat → Int64 → Int64) (h : Int64) : Nat → Int64
  | 0 => h
  | n + 1 => F n (dgR F h n)
def dgPs (t : Int32) (l : List PK) (h : Int64) : Int64 := l.foldl (fun h p => dgP t p h) h
theorem dgPs_S {l : List PK} {k : Nat} {p : PK} (h : l[k]? = some p) (t : Int32) (x : Int64) : dgPs t (l.take (k + 1)) x = dgP t p (dgPs t (l.take k) x) := by
  have ht : l.take (k + 1) = l.take k ++ [p] := by rw [List.take_add_one, h]; rfl
  unfold dgPs
  rw [ht, List.foldl_append]
  rfl
def dgC1 (X : CS) (b : Prop) [Decidable b] (h : Int64) : Int64 := hsR (cnV X) (Int64.ofNat 31 * h + (if b then 1 else 0)) 9
def dgC2 (X : CS) (E : Nat → Nat → Int32) (b : Prop) [Decidable b] (h : Int64) : Int64 := if b then hs (hsR (fun k => cS X (k + 1)) h 6) (nI (staleN X E)) else h
abbrev cnn (X : CS) : Prop := cS X 0 = 1
def dgC (t : Int32) (X : CS) (E : Nat → Nat → Int32) (h : Int64) : Int64 := dgPs t (flyL X) (dgR (fun e => dgE X E e (cnn X)) (dgC2 X E (cnn X) (dgC1 X (cnn X) h)) 16)
theorem flyL_mem {X : CS} {k : Nat} {p : PK} (h : (flyL X)[k]? = some p) : p ∈ cP X := (List.mem_filter.mp (List.mem_of_getElem? h)).1
def sp_X10_mixClient : SPc := fun As μ K => match As with
  | [.inr (.inr (20, r)), .inl c] => ∃ (i : Nat) (X : CS) (E : Nat → Nat → Int32), c = nI i ∧ i < 3 ∧ RC (μ.1 (r + 1)) i X ∧ bitP (cP X) ∧ (∀ p ∈ cP X, ∀ en ∈ p.2, enOK en) ∧ (∀ e, e < 16 → μ.1 (r + 1) (3 + 3 * e) = E e 0 ∧ sOK (E e 0)) ∧ (∀ e, e < 16 → sOK (cB X e 2) ∧ ∀ q ∈ cR X e, sOK q.2) ∧ K (.inl none) (hW μ r (dgC (μ.1 (r + 1) 0) X E (μ.2.2.1 r 7)))
  | _ => False
theorem iB_ne0 (p : Prop) [Decidable p] : (¬ iB p = 0) ↔ p := by rw [iB_eq0, Classical.not_not]
theorem dgE_iff (X : CS) (E : Nat → Nat → Int32) (e : Nat) (h : Int64) : dgE X E e (¬ iB (cnn X) = 0) h = dgE X E e (cnn X) h := by
  unfold dgE
  by_cases q : cnn X
  · rw [if_pos ((iB_ne0 _).mpr q), if_pos q]
  · rw [if_neg (fun z => q ((iB_ne0 _).mp z)), if_neg q]
def ct_X10_mixClient : List (Nat × CI) := [(89, ci_X10_isConnected), (222, ci_X10_mix), (198, ci_X10_countOf), (80, ci_X10_of), (201, ci_X10_staleOf), (226, ci_X10_mixEntity), (171, ci_X10_flying), (207, ci_X10_flyingCell), (230, ci_X10_mixPacket)]
def ci_X10_mixClient : CI := (yX10_mixClient, cX10_mixClient, 4, none, 2, (6, 0, 0, 137), 19, [], sp_X10_mixClient)
set_option maxRecDepth 100000 in
theorem ck_X10_mixClient : chkM ci_X10_mixClient RX10 co_X10_mixClient ct_X10_mixClient [] false false = true := by decide +kernel
set_option maxHeartbeats 4000000 in
set_option maxRecDepth 100000 in
theorem ms_X10_mixClient {g : GPT} {ot : OT} {l : Launch} (hl : l.stackTraces = false) : MS g ot l ci_X10_mixClient := by
  refine ms_of hl RX10 co_X10_mixClient ct_X10_mixClient [] false false [21,46,89,110] 82 ck_X10_mixClient (List.forall_mem_cons.mpr ⟨ms_X10_isConnected hl, List.forall_mem_cons.mpr ⟨ms_X10_mix hl, List.forall_mem_cons.mpr ⟨ms_X10_countOf hl, List.forall_mem_cons.mpr ⟨ms_X10_of hl, List.forall_mem_cons.mpr ⟨ms_X10_staleOf hl, List.forall_mem_cons.mpr ⟨ms_X10_mixEntity hl, List.forall_mem_cons.mpr ⟨ms_X10_flying hl, List.forall_mem_cons.mpr ⟨ms_X10_flyingCell hl, List.forall_mem_cons.mpr ⟨ms_X10_mixPacket hl, fun _ h => nomatch h⟩⟩⟩⟩⟩⟩⟩⟩⟩) ?_
  intro As μ K h
  simp only [ci_X10_mixClient, sp_X10_mixClient] at h
  split at h
  case h_2 => exact h.elim
  rename_i r c
  obtain ⟨i, X, E, rfl, hi, hX, hbp, hen, hE, hBR, h⟩ := h
  have c0 : μ.1 (r + 1) (51 + 2406 * i) = cS X 0 := hX.1 0 (by omega)
  have fl : flyN (cP X) ≤ 22 := Nat.le_trans (List.length_filter_le _ _) hX.2.2.1.2.1
  have tt : μ.1 (r + 1) 0 = μ.1 (r + 1) 0 := rfl
  refine ⟨Nat.le_of_ble_eq_true rfl, fun m pc lc st μ' ce sl => (∃ k, k ≤ 9 ∧ m = 200 - k ∧ pc = 21 ∧ lc = [some (.inr (.inr (20, r))), some (.inl (nI i)), some (.inl (iB (cnn X))), some (.inl (nI k))] ∧ st = [] ∧ μ' = hW μ r (hsR (cnV X) (Int64.ofNat 31 * μ.2.2.1 r 7 + (if cnn X then 1 else 0)) k) ∧ ce = 0 ∧ sl = 0) ∨
    (∃ k, k ≤ 6 ∧ (k = 0 ∨ cnn X) ∧ m = 100 - k ∧ pc = 46 ∧ lc = [some (.inr (.inr (20, r))), some (.inl (nI i)), some (.inl (iB (cnn X))), some (.inl (nI (k + 1)))] ∧ st = [] ∧ μ' = hW μ r (hsR (fun k => cS X (k + 1)) (dgC1 X (cnn X) (μ.2.2.1 r 7)) k) ∧ ce = 0 ∧ sl = 0) ∨
    (∃ k, k ≤ 16 ∧ m = 80 - k ∧ pc = 89 ∧ lc = [some (.inr (.inr (20, r))), some (.inl (nI i)), some (.inl (iB (cnn X))), some (.inl (nI k))] ∧ st = [] ∧ μ' = hW μ r (dgR (fun e => dgE X E e (cnn X)) (dgC2 X E (cnn X) (dgC1 X (cnn X) (μ.2.2.1 r 7))) k) ∧ ce = 0 ∧ sl = 0) ∨
    (∃ k, k ≤ flyN (cP X) ∧ m = 40 - k ∧ pc = 110 ∧ lc = [some (.inr (.inr (20, r))), some (.inl (nI i)), some (.inl (iB (cnn X))), some (.inl (nI k))] ∧ st = [] ∧ μ' = hW μ r (dgPs (μ.1 (r + 1) 0) ((flyL X).take k) (dgR (fun e => dgE X E e (cnn X)) (dgC2 X E (cnn X) (dgC1 X (cnn X) (μ.2.2.1 r 7))) 16)) ∧ ce = 0 ∧ sl = 0), ?_, ?_⟩
  · refine ⟨i, rfl, hi, fun h1 => ?_, fun h1 => ?_⟩
    · have h1 : iB (μ.1 (r + 1) (51 + 2406 * i) = 1) = 0 := h1
      rw [iB_eq0, c0] at h1
      refine ⟨200, [some (.inr (.inr (20, r))), some (.inl (nI i)), some (.inl (iB (cnn X))), some (.inl (nI 0))], ⟨rfl, rfl, ?_, rfl, trivial⟩, Or.inl ⟨0, Nat.zero_le _, rfl, rfl, rfl, rfl, ?_, rfl, rfl⟩⟩
      · show (some (.inl (iB (μ.1 (r + 1) (51 + 2406 * i) = 1))) : Option TV) = _
        simp only [c0]
      · show _ = hW μ r (Int64.ofNat 31 * μ.2.2.1 r 7 + (if cnn X then 1 else 0))
        rw [if_neg h1]
        rfl
    · have h1 : ¬ iB (μ.1 (r + 1) (51 + 2406 * i) = 1) = 0 := h1
      rw [iB_ne0, c0] at h1
      refine ⟨200, [some (.inr (.inr (20, r))), some (.inl (nI i)), some (.inl (iB (cnn X))), some (.inl (nI 0))], ⟨rfl, rfl, ?_, rfl, trivial⟩, Or.inl ⟨0, Nat.zero_le _, rfl, rfl, rfl, rfl, ?_, rfl, rfl⟩⟩
      · show (some (.inl (iB (μ.1 (r + 1) (51 + 2406 * i) = 1))) : Option TV) = _
        simp only [c0]
      · show _ = hW μ r (Int64.ofNat 31 * μ.2.2.1 r 7 + (if cnn X then 1 else 0))
        rw [if_pos h1]
        rfl
  · rintro m pc lc st μ' ce sl (⟨k, hk, rfl, rfl, rfl, rfl, rfl, rfl, rfl⟩ | ⟨k, hk, hkb, rfl, rfl, rfl, rfl, rfl, rfl, rfl⟩ | ⟨k, hk, rfl, rfl, rfl, rfl, rfl, rfl, rfl⟩ | ⟨k, hk, rfl, rfl, rfl, rfl, rfl, rfl, rfl⟩)
    · refine ⟨fun h1 => ?_, fun h1 => ?_⟩
      · simp only [icP, ifP, iL, iM1] at h1
        try simp only [z_nI] at h1
        try simp only [nI_add, nI_mul] at h1
        first | rw [nI_le_iff (by omega) (by omega)] at h1 | rw [nI_lt_iff (by omega) (by omega)] at h1 | rw [nI_eq_iff (by omega) (by omega)] at h1
        obtain rfl : k = 9 := by omega
        exact ⟨100, [some (.inr (.inr (20, r))), some (.inl (nI i)), some (.inl (iB (cnn X))), some (.inl (nI (0 + 1)))], by omega, ⟨rfl, rfl, rfl, rfl, trivial⟩, Or.inr (Or.inl ⟨0, Nat.zero_le _, Or.inl rfl, rfl, rfl, rfl, rfl, rfl, rfl, rfl⟩)⟩
      · simp only [icP, ifP, iL, iM1] at h1
        try simp only [z_nI] at h1
        try simp only [nI_add, nI_mul] at h1
        first | rw [nI_le_iff (by omega) (by omega)] at h1 | rw [nI_lt_iff (by omega) (by omega)] at h1 | rw [nI_eq_iff (by omega) (by omega)] at h1
        refine ⟨i, k, X, rfl, rfl, hi, by omega, hX, hbp, 200 - (k + 1), [some (.inr (.inr (20, r))), some (.inl (nI i)), some (.inl (iB (cnn X))), some (.inl (nI (k + 1)))], by omega, ⟨rfl, rfl, rfl, inc_tv k, trivial⟩, Or.inl ⟨k + 1, by omega, rfl, rfl, rfl, rfl, ?_, rfl, rfl⟩⟩
        rw [hW_hW, hW_at]
        rfl
    · refine ⟨fun h1 => ?_, fun h1 => ⟨fun h2 => ?_, fun h2 => ?_⟩⟩
      · have h1 : nI 6 < nI (k + 1) := h1
        rw [nI_lt_iff (by omega) (by omega)] at h1
        obtain rfl : k = 6 := by omega
        have hb : cnn X := hkb.resolve_left (by omega)
        refine ⟨fun h2 => absurd hb ((iB_eq0 _).mp h2), fun h2 => ⟨i, X, E, rfl, hi, hX, hE, 80, [some (.inr (.inr (20, r))), some (.inl (nI i)), some (.inl (iB (cnn X))), some (.inl (nI 0))], by omega, ⟨rfl, rfl, rfl, rfl, trivial⟩, Or.inr (Or.inr (Or.inl ⟨0, Nat.zero_le _, rfl, rfl, rfl, rfl, ?_, rfl, rfl⟩))⟩⟩
        rw [hW_hW, hW_at]
        show _ = hW μ r (dgC2 X E (cnn X) (dgC1 X (cnn X) (μ.2.2.1 r 7)))
        have e : dgC2 X E (cnn X) (dgC1 X (cnn X) (μ.2.2.1 r 7)) = hs (hsR (fun k => cS X (k + 1)) (dgC1 X (cnn X) (μ.2.2.1 r 7)) 6) (nI (staleN X E)) := if_pos hb
        rw [e]
        rfl
      · have h2 : ¬ cnn X := (iB_eq0 _).mp h2
        obtain rfl : k = 0 := hkb.resolve_right h2
        refine ⟨fun h3 => ?_, fun h3 => absurd ((iB_ne0 _).mp h3) h2⟩
        refine ⟨80, [some (.inr (.inr (20, r))), some (.inl (nI i)), some (.inl (iB (cnn X))), some (.inl (nI 0))], by omega, ⟨rfl, rfl, rfl, rfl, trivial⟩, Or.inr (Or.inr (Or.inl ⟨0, Nat.zero_le _, rfl, rfl, rfl, rfl, ?_, rfl, rfl⟩))⟩
        show _ = hW μ r (dgC2 X E (cnn X) (dgC1 X (cnn X) (μ.2.2.1 r 7)))
        have e : dgC2 X E (cnn X) (dgC1 X (cnn X) (μ.2.2.1 r 7)) = dgC1 X (cnn X) (μ.2.2.1 r 7) := if_neg h2
        rw [e]
        rfl
      · have h2 : cnn X := (iB_ne0 _).mp h2
        have h1 : ¬ nI 6 < nI (k + 1) := h1
        rw [nI_lt_iff (by omega) (by omega)] at h1
        refine ⟨i, k + 1, rfl, rfl, by omega, 100 - (k + 1), [some (.inr (.inr (20, r))), some (.inl (nI i)), some (.inl (iB (cnn X))), some (.inl (nI (k + 1 + 1)))], by omega, ⟨rfl, rfl, rfl, inc_tv (k + 1), trivial⟩, Or.inr (Or.inl ⟨k + 1, by omega, Or.inr h2, rfl, rfl, rfl, rfl, ?_, rfl, rfl⟩)⟩
        rw [hW_hW, hW_at]
        show hW μ r (Int64.ofNat 31 * _ + (μ.1 (r + 1) (51 + 2406 * i + (k + 1))).toInt64) = hW μ r (Int64.ofNat 31 * _ + (cS X (k + 1)).toInt64)
        rw [hX.1 (k + 1) (by omega)]
    · refine ⟨fun h1 => ?_, fun h1 => ?_⟩
      · simp only [icP, ifP, iL, iM1] at h1
        try simp only [z_nI] at h1
        try simp only [nI_add, nI_mul] at h1
        first | rw [nI_le_iff (by omega) (by omega)] at h1 | rw [nI_lt_iff (by omega) (by omega)] at h1 | rw [nI_eq_iff (by omega) (by omega)] at h1
        obtain rfl : k = 16 := by omega
        exact ⟨40, [some (.inr (.inr (20, r))), some (.inl (nI i)), some (.inl (iB (cnn X))), some (.inl (nI 0))], by omega, ⟨rfl, rfl, rfl, rfl, trivial⟩, Or.inr (Or.inr (Or.inr ⟨0, Nat.zero_le _, rfl, rfl, rfl, rfl, rfl, rfl, rfl⟩))⟩
      · simp only [icP, ifP, iL, iM1] at h1
        try simp only [z_nI] at h1
        try simp only [nI_add, nI_mul] at h1
        first | rw [nI_le_iff (by omega) (by omega)] at h1 | rw [nI_lt_iff (by omega) (by omega)] at h1 | rw [nI_eq_iff (by omega) (by omega)] at h1
        refine ⟨i, k, X, E, rfl, rfl, hi, by omega, hX, hE k (by omega), (hBR k (by omega)).1, (hBR k (by omega)).2, 80 - (k + 1), [some (.inr (.inr (20, r))), some (.inl (nI i)), some (.inl (iB (cnn X))), some (.inl (nI (k + 1)))], by omega, ⟨rfl, rfl, rfl, inc_tv k, trivial⟩, Or.inr (Or.inr (Or.inl ⟨k + 1, by omega, rfl, rfl, rfl, rfl, ?_, rfl, rfl⟩))⟩
        rw [hW_hW, hW_at, dgE_iff]
        rfl
    · refine ⟨i, X, rfl, hi, hX, hbp, fun h1 => ?_, fun h1 => ?_⟩
      · simp only [icP, ifP, iL, iM1] at h1
        try simp only [z_nI] at h1
        try simp only [nI_add, nI_mul] at h1
        first | rw [nI_le_iff (by omega) (by omega)] at h1 | rw [nI_lt_iff (by omega) (by omega)] at h1 | rw [nI_eq_iff (by omega) (by omega)] at h1
        rw [List.take_of_length_le (by show flyN (cP X) ≤ k; omega)]
        exact h
      · simp only [icP, ifP, iL, iM1] at h1
        try simp only [z_nI] at h1
        try simp only [nI_add, nI_mul] at h1
        first | rw [nI_le_iff (by omega) (by omega)] at h1 | rw [nI_lt_iff (by omega) (by omega)] at h1 | rw [nI_eq_iff (by omega) (by omega)] at h1
        refine ⟨i, X, rfl, hi, hX, fun a j p hj hp hpm hrp ha0 ha => ?_, fun hno => absurd rfl (hno k (by omega))⟩
        have hj2 : j < flyN (cP X) := (List.getElem?_eq_some_iff.mp hp).1
        have := nI_inj (by omega) (by omega) hj
        subst this
        refine ⟨a, p, rfl, ha, hrp, hen p hpm, 40 - (k + 1), [some (.inr (.inr (20, r))), some (.inl (nI i)), some (.inl (iB (cnn X))), some (.inl (nI (k + 1)))], by omega, ⟨rfl, rfl, rfl, inc_tv k, trivial⟩, Or.inr (Or.inr (Or.inr ⟨k + 1, by omega, rfl, rfl, rfl, rfl, ?_, rfl, rfl⟩))⟩
        rw [hW_hW, hW_at, dgPs_S hp]
        rfl
end
section
/-! WHAT A TICK DOES to a client, of the state alone. -/
theorem upd_eq (f : Nat → Int32) (i : Nat) (v : Int32) : upd f i v i = v := by unfold upd; rw [if_pos rfl]
theorem upd_ne (f : Nat → Int32) {i k : Nat} (v : Int32) (h : ¬ k = i) : upd f i v k = f k := by unfold upd; rw [if_neg h]
abbrev setS (X : CS) (k : Nat) (v : Int32) : CS := (upd X.1 k v, X.2)
abbrev setA (X : CS) (l : List (Int32 × Int32)) : CS := (X.1, l, X.2.2)
abbrev setP (X : CS) (l : List PK) : CS := (X.1, X.2.1, l, X.2.2.2)
abbrev setB (X : CS) (e k : Nat) (v : Int32) : CS := (X.1, X.2.1, X.2.2.1, up2 X.2.2.2.1 e k v, X.2.2.2.2)
abbrev setR (X : CS) (e : Nat) (l : List (Int32 × Int32)) : CS := (X.1, X.2.1, X.2.2.1, X.2.2.2.1, up1 X.2.2.2.2 e l)
/-- the parts of a client's cells -/
def RS (f : Nat → Int32) (c : Nat) (s : Nat → Int32) : Prop := ∀ k, k < 16 → f (51 + 2406 * c + k) = s k
def RA (f : Nat → Int32) (c : Nat) (l : List (Int32 × Int32)) : Prop := f (51 + 2406 * c + 16) = nI l.length ∧ l.length ≤ 24 ∧ ∀ (i : Nat) (q : Int32 × Int32), l[i]? = some q → f (51 + 2406 * c + (17 + 2 * i)) = q.1 ∧ f (51 + 2406 * c + (17 + 2 * i) + 1) = q.2
def RPL (f : Nat → Int32) (c : Nat) (l : List PK) : Prop := f (51 + 2406 * c + 65) = nI l.length ∧ l.length ≤ 22 ∧ ∀ (i : Nat) (p : PK), l[i]? = some p → RP f (51 + 2406 * c + (66 + 86 * i)) p
def RB (f : Nat → Int32) (c : Nat) (b : Nat → Nat → Int32) : Prop := ∀ e, e < 16 → ∀ k, k < 3 → f (51 + 2406 * c + (1958 + 3 * e) + k) = b e k
def RD (f : Nat → Int32) (c : Nat) (d : Nat → List (Int32 × Int32)) : Prop := ∀ e, e < 16 → RR f (51 + 2406 * c + (2006 + 25 * e)) (d e)
theorem RC_iff (f : Nat → Int32) (c : Nat) (X : CS) : RC f c X ↔ RS f c (cS X) ∧ RA f c (cA X) ∧ RPL f c (cP X) ∧ RB f c (cB X) ∧ RD f c (cR X) := Iff.rfl
theorem RS.keep {f g : Nat → Int32} {c : Nat} {s : Nat → Int32} (h : RS f c s) (hg : ∀ k, 51 + 2406 * c ≤ k → k < 51 + 2406 * c + 16 → g k = f k) : RS g c s := fun k hk => by
  rw [hg _ (by omega) (by omega)]
  exact h k hk
theorem RA.keep {f g : Nat → Int32} {c : Nat} {l : List (Int32 × Int32)} (h : RA f c l) (hg : ∀ k, 51 + 2406 * c + 16 ≤ k → k < 51 + 2406 * c + 65 → g k = f k) : RA g c l := by
  obtain ⟨h1, h2, h3⟩ := h
  refine ⟨by rw [hg _ (by omega) (by omega)]; exact h1, h2, fun i q hq => ?_⟩
  have hi : i < l.length := (List.getElem?_eq_some_iff.mp hq).1
  rw [hg _ (by omega) (by omega), hg _ (by omega) (by omega)]
  exact h3 i q hq
theorem RP.keep {f g : Nat → Int32} {a : Nat} {p : PK} (h : RP f a p) (hg : ∀ k, a ≤ k → k < a + 86 → g k = f k) : RP g a p := by
  obtain ⟨a1, a2, a3, a4⟩ := h
  refine ⟨fun k hk => by rw [hg _ (by omega) (by omega)]; exact a1 k hk, by rw [hg _ (by omega) (by omega)]; exact a2, a3, fun j en hj k hk => ?_⟩
  have hj2 : j < p.2.length := (List.getElem?_eq_some_iff.mp hj).1
  rw [hg _ (by omega) (by omega)]
  exact a4 j en hj k hk
theorem RPL.keep {f g : Nat → Int32} {c : Nat} {l : List PK} (h : RPL f c l) (hg : ∀ k, 51 + 2406 * c + 65 ≤ k → k < 51 + 2406 * c + 1958 → g k = f k) : RPL g c l := by
  obtain ⟨h1, h2, h3⟩ := h
  refine ⟨by rw [hg _ (by omega) (by omega)]; exact h1, h2, fun i p hp => ?_⟩
  have hi : i < l.length := (List.getElem?_eq_some_iff.mp hp).1
  exact (h3 i p hp).keep fun k k1 k2 => hg k (by omega) (by omega)
theorem RB.keep {f g : Nat → Int32} {c : Nat} {b : Nat → Nat → Int32} (h : RB f c b) (hg : ∀ k, 51 + 2406 * c + 1958 ≤ k → k < 51 + 2406 * c + 2006 → g k = f k) : RB g c b := fun e he k hk => by
  rw [hg _ (by omega) (by omega)]
  exact h e he k hk
theorem RR.keep {f g : Nat → Int32} {a : Nat} {l : List (Int32 × Int32)} (h : RR f a l) (hg : ∀ k, a ≤ k → k < a + 25 → g k = f k) : RR g a l := by
  obtain ⟨a1, a2, a3⟩ := h
  refine ⟨by rw [hg _ (by omega) (by omega)]; exact a1, a2, fun i q hq => ?_⟩
  have hi : i < l.length := (List.getElem?_eq_some_iff.mp hq).1
  rw [hg _ (by omega) (by omega), hg _ (by omega) (by omega)]
  exact a3 i q hq
theorem RD.keep {f g : Nat → Int32} {c : Nat} {d : Nat → List (Int32 × Int32)} (h : RD f c d) (hg : ∀ k, 51 + 2406 * c + 2006 ≤ k → k < 51 + 2406 * c + 2406 → g k = f k) : RD g c d := fun e he => (h e he).keep fun k k1 k2 => hg k (by omega) (by omega)
theorem RC.S {f : Nat → Int32} {c : Nat} {X : CS} (h : RC f c X) {k : Nat} (hk : k < 16) (v : Int32) : RC (upd f (51 + 2406 * c + k) v) c (setS X k v) := by
  obtain ⟨h1, h2, h3, h4, h5⟩ := h
  refine ⟨fun j hj => ?_, RA.keep h2 fun z z1 z2 => upd_ne _ _ (by omega), RPL.keep h3 fun z z1 z2 => upd_ne _ _ (by omega), RB.keep h4 fun z z1 z2 => upd_ne _ _ (by omega), RD.keep h5 fun z z1 z2 => upd_ne _ _ (by omega)⟩
  show upd f (51 + 2406 * c + k) v (51 + 2406 * c + j) = upd X.1 k v j
  by_cases hjk : j = k
  · subst hjk
    rw [upd_eq, upd_eq]
  · rw [upd_ne _ _ (by omega), upd_ne _ _ hjk]
    exact h1 j hj
theorem RC.B {f : Nat → Int32} {c : Nat} {X : CS} (h : RC f c X) {e k : Nat} (he : e < 16) (hk : k < 3) (v : Int32) : RC (upd f (51 + 2406 * c + (1958 + 3 * e) + k) v) c (setB X e k v) := by
  obtain ⟨h1, h2, h3, h4, h5⟩ := h
  refine ⟨RS.keep h1 fun z z1 z2 => upd_ne _ _ (by omega), RA.keep h2 fun z z1 z2 => upd_ne _ _ (by omega), RPL.keep h3 fun z z1 z2 => upd_ne _ _ (by omega), fun e' he' k' hk' => ?_, RD.keep h5 fun z z1 z2 => upd_ne _ _ (by omega)⟩
  show upd f (51 + 2406 * c + (1958 + 3 * e) + k) v (51 + 2406 * c + (1958 + 3 * e') + k') = up2 X.2.2.2.1 e k v e' k'
  unfold up2
  by_cases hjk : e' = e ∧ k' = k
  · rw [if_pos hjk, hjk.1, hjk.2, upd_eq]
  · rw [if_neg hjk, upd_ne _ _ (by omega)]
    exact h4 e' he' k' hk'
theorem RC.PH {f : Nat → Int32} {c : Nat} {X : CS} (h : RC f c X) {i k : Nat} {p : PK} (hp : (cP X)[i]? = some p) (hk : k < 5) (v : Int32) : RC (upd f (51 + 2406 * c + (66 + 86 * i) + k) v) c (setP X ((cP X).set i (upd p.1 k v, p.2))) := by
  obtain ⟨h1, h2, h3, h4, h5⟩ := h
  have hi : i < (cP X).length := (List.getElem?_eq_some_iff.mp hp).1
  have hl := h3.2.1
  refine ⟨RS.keep h1 fun z z1 z2 => upd_ne _ _ (by omega), RA.keep h2 fun z z1 z2 => upd_ne _ _ (by omega), ⟨?_, ?_, fun j q hq => ?_⟩, RB.keep h4 fun z z1 z2 => upd_ne _ _ (by omega), RD.keep h5 fun z z1 z2 => upd_ne _ _ (by omega)⟩
  · show upd f _ v _ = nI ((cP X).set i _).length
    rw [upd_ne _ _ (by omega), List.length_set]
    exact h3.1
  · show ((cP X).set i _).length ≤ 22
    rw [List.length_set]
    exact hl
  · have hq : ((cP X).set i (upd p.1 k v, p.2))[j]? = some q := hq
    by_cases hij : i = j
    · subst hij
      rw [List.getElem?_set_self hi] at hq
      cases hq
      obtain ⟨a1, a2, a3, a4⟩ := h3.2.2 i p hp
      refine ⟨fun m hm => ?_, by rw [upd_ne _ _ (by omega)]; exact a2, a3, fun m en hm z hz => by rw [upd_ne _ _ (by omega)]; exact a4 m en hm z hz⟩
      show upd f _ v _ = upd p.1 k v m
      by_cases hmk : m = k
      · subst hmk
        rw [upd_eq, upd_eq]
      · rw [upd_ne _ _ (by omega), upd_ne _ _ hmk]
        exact a1 m hm
    · rw [List.getElem?_set_ne hij] at hq
      have hj : j < (cP X).length := (List.getElem?_eq_some_iff.mp hq).1
      exact (h3.2.2 j q hq).keep fun z z1 z2 => upd_ne _ _ (by omega)
/-- the records of one entity -/
theorem RC.R {f g : Nat → Int32} {c : Nat} {X : CS} (h : RC f c X) {e : Nat} (he : e < 16) {l : List (Int32 × Int32)} (hl : RR g (51 + 2406 * c + (2006 + 25 * e)) l) (hg : ∀ k, k < 51 + 2406 * c + (2006 + 25 * e) ∨ 51 + 2406 * c + (2006 + 25 * e) + 25 ≤ k → g k = f k) : RC g c (setR X e l) := by
  obtain ⟨h1, h2, h3, h4, h5⟩ := h
  refine ⟨RS.keep h1 fun z z1 z2 => hg _ (by omega), RA.keep h2 fun z z1 z2 => hg _ (by omega), RPL.keep h3 fun z z1 z2 => hg _ (by omega), RB.keep h4 fun z z1 z2 => hg _ (by omega), fun e' he' => ?_⟩
  show RR g _ (up1 X.2.2.2.2 e l e')
  unfold up1
  by_cases hee : e' = e
  · subst hee
    rw [if_pos rfl]
    exact hl
  · rw [if_neg hee]
    exact RR.keep (h5 e' he') fun z z1 z2 => hg _ (by omega)
def eN (en : EN) : Nat := sN (en 1)
def addRec (l : List (Int32 × Int32)) (n s : Int32) : List (Int32 × Int32) := (if l.length = 12 then l.drop 1 else l) ++ [(n, s)]
def rcvE (n : Int32) (X : CS) (en : EN) : CS :=
  if n ≤ lastN (cR X (eN en)) then X
  else if en 0 = 2 then
    (if recS (cR X (eN en)) (en 2) = -1 then setS X 13 (cS X 13 + 1)
     else setR X (eN en) (addRec (cR X (eN en)) n (nI (mxN (sN (recS (cR X (eN en)) (en 2))) (sN (en 4)) (sN (en 3))))))
  else setR X (eN en) (addRec (cR X (eN en)) n (en 4))
def ackS (t d n : Int32) (X : CS) : CS := if 0 < cS X 6 then setS (setS X 6 (cS X 6 + -1)) 11 (cS X 11 + 1) else setA X (cA X ++ [(n, t + d)])
def rcvP (t d : Int32) (p : PK) (X : CS) : CS := ackS t d (p.1 0) (p.2.foldl (rcvE (p.1 0)) X)
def arrP (t d : Int32) (l : List PK) (X : CS) : CS := l.foldl (fun X p => if p.1 3 = t then rcvP t d p X else X) X
def zeroA (t : Int32) (p : PK) : PK := if p.1 3 = t then (upd p.1 3 0, p.2) else p
abbrev kpP (p : PK) : Prop := p.1 4 = 1 ∨ 0 < p.1 3
abbrev swp (l : List PK) : List PK := l.filter fun p => decide (kpP p)
def arr1 (t d : Int32) (X : CS) : CS := setP (arrP t d (cP X) X) (swp ((cP X).map (zeroA t)))
def setl (n : Int32) (X : CS) (en : EN) : CS := if cB X (eN en) 1 < n then setB (setB X (eN en) 1 n) (eN en) 2 (en 4) else X
abbrev hit (n : Int32) (p : PK) : Prop := p.1 0 = n ∧ p.1 4 = 1
def ackF (n : Int32) (l : List PK) (X : CS) : CS := l.foldl (fun X p => if hit n p then p.2.foldl (setl n) X else X) X
def zeroF (n : Int32) (p : PK) : PK := if p.1 0 ≤ n then (upd p.1 4 0, p.2) else p
def anyH (n : Int32) (l : List PK) : Bool := l.any fun p => decide (hit n p)
def ackN (n : Int32) (X : CS) : CS := setP (ackF n (cP X) (setS X 12 (cS X 12 + 1))) (swp (if anyH n (cP X) = true then (cP X).map (zeroF n) else cP X))
def arr2 (t : Int32) (X : CS) : CS := setA ((cA X).foldl (fun X a => if a.2 = t then ackN a.1 X else X) X) ((cA X).filter fun a => decide (¬ a.2 = t))
def arrC (t d : Int32) (X : CS) : CS := arr2 t (arr1 t d X)
abbrev old (t lim : Int32) (p : PK) : Prop := p.1 4 = 1 ∧ lim ≤ t - p.1 2
def zeroO (t lim : Int32) (p : PK) : PK := if old t lim p then (upd p.1 4 0, p.2) else p
def oldN (t lim : Int32) (l : List PK) : Nat := (l.filter fun p => decide (old t lim p)).length
def giv (t lim : Int32) (X : CS) : CS := setP (setS X 14 (cS X 14 + nI (oldN t lim (cP X)))) (swp ((cP X).map (zeroO t lim)))
def rsd (X : CS) (E : Nat → Nat → Int32) (e : Nat) : Int32 := if inA X (E e 0) then (if ¬ cB X e 2 = E e 0 then cB X e 0 + nI (2 ^ prt (sN (E e 0)) 2) * (32 - dstC X (E e 0)) else 0) else (if ¬ cB X e 2 = -1 then cB X e 0 + 100 else 0)
/-- the priorities of the entities below n, raised -/
def raiN (X : CS) (E : Nat → Nat → Int32) : Nat → CS
  | 0 => X
  | n + 1 => setB (raiN X E n) n 0 (rsd (raiN X E n) E n)
/-- the entry that is put -/
def mkE (X : CS) (E : Nat → Nat → Int32) (e : Nat) : EN := fun k => match k with
  | 0 => if inA X (E e 0) then (if cB X e 2 = -1 then 1 else 2) else 0
  | 1 => nI e
  | 2 => if inA X (E e 0) ∧ ¬ cB X e 2 = -1 then cB X e 1 else 0
  | 3 => if inA X (E e 0) then (if cB X e 2 = -1 then 15 else nI (mkN (sN (cB X e 2)) (sN (E e 0)))) else 0
  | _ => if inA X (E e 0) then E e 0 else -1
/-- where an entity stands in the order -/
def ins (B : Nat → Nat → Int32) (e : Nat) : List Nat → List Nat
  | [] => [e]
  | x :: l => if B x 0 < B e 0 then e :: x :: l else x :: ins B e l
def ordN (B : Nat → Nat → Int32) : Nat → List Nat
  | 0 => []
  | n + 1 => if 0 < B n 0 then ins B n (ordN B n) else ordN B n
def putQ (E : Nat → Nat → Int32) (Q : Int32 × List EN × CS) (e : Nat) : Int32 × List EN × CS := if Q.1 + nI (prc Q.2.2 E e) ≤ cS Q.2.2 4 then (Q.1 + nI (prc Q.2.2 E e), Q.2.1 ++ [mkE Q.2.2 E e], setB Q.2.2 e 0 0) else Q
def sndQ (E : Nat → Nat → Int32) (X : CS) : Int32 × List EN × CS := (ordN (cB X) 16).foldl (putQ E) (4, [], X)
def hdr (t d : Int32) (b : Int32) (X : CS) : Nat → Int32 := fun k => match k with
  | 0 => cS X 7 + 1
  | 1 => b
  | 2 => t
  | 3 => if 0 < cS X 5 then 0 else t + d
  | _ => 1
def lauS (b : Int32) (n : Nat) (X : CS) : Nat → Int32 := fun k => match k with
  | 5 => if 0 < cS X 5 then cS X 5 + -1 else cS X 5
  | 7 => cS X 7 + 1
  | 8 => cS X 8 + 1
  | 9 => cS X 9 + b
  | 10 => if 0 < cS X 5 then cS X 10 + 1 else cS X 10
  | 15 => cS X 15 + nI n
  | k => cS X k
def lau (t d : Int32) (Q : Int32 × List EN × CS) : CS := (lauS Q.1 Q.2.1.length Q.2.2, cA Q.2.2, cP Q.2.2 ++ [(hdr t d Q.1 Q.2.2, Q.2.1)], Q.2.2.2.2.2)
def snd1 (t d : Int32) (E : Nat → Nat → Int32) (X : CS) : CS := if (sndQ E X).2.1 = [] then X else lau t d (sndQ E X)
def srv (t d i : Int32) (E : Nat → Nat → Int32) (X : CS) : CS := if t % i = 0 ∧ flyN (cP (raiN (giv t (4 * d + i) X) E 16)) < 12 then snd1 t d E (raiN (giv t (4 * d + i) X) E 16) else raiN (giv t (4 * d + i) X) E 16
end
section
/-! THE REFERENCE changes a client: what holds after it is told of the state alone. -/
theorem up2_at (F : Nat → Nat → Int32) (a j k : Nat) (x : Int32) : up2 F a j x a k = upd (F a) j x k := by
  rw [up2_stF, stF_at]
theorem rW_ne (μ : MM) (r : Nat) (f : Nat → Int32) {b : Nat} (h : b ≠ r + 1) : (rW μ r f).1 b = μ.1 b := stF_ne _ _ h
def RU (μ : MM) (r i : Nat) (X' : CS) (K : MM → Prop) : Prop := ∀ f', RC f' i X' → (∀ k, k < 51 + 2406 * i ∨ 51 + 2406 * i + 2406 ≤ k → f' k = μ.1 (r + 1) k) → K (rW μ r f')
theorem addRec_len {l : List (Int32 × Int32)} (n s : Int32) (h : l.length ≤ 12) : (addRec l n s).length ≤ 12 ∧ 0 < (addRec l n s).length := by
  unfold addRec
  by_cases q : l.length = 12
  · rw [if_pos q, List.length_append, List.length_drop]
    simp only [List.length_cons, List.length_nil]
    omega
  · rw [if_neg q, List.length_append]
    simp only [List.length_cons, List.length_nil]
    omega
def sp_X10_addRecord : SPc := fun As μ K => match As with
  | [.inr (.inr (20, r)), .inl c, .inl e, .inl n, .inl s] => ∃ (i j : Nat) (l : List (Int32 × Int32)), c = nI i ∧ e = nI j ∧ i < 3 ∧ j < 16 ∧ RR (μ.1 (r + 1)) (51 + 2406 * i + (2006 + 25 * j)) l ∧ ∀ f', RR f' (51 + 2406 * i + (2006 + 25 * j)) (addRec l n s) → (∀ k, k < 51 + 2406 * i + (2006 + 25 * j) ∨ 51 + 2406 * i + (2006 + 25 * j) + 25 ≤ k → f' k = μ.1 (r + 1) k) → K (.inl none) (rW μ r f')
  | _ => False
/-- the records shifted by one, as far as k -/
def shR (f : Nat → Int32) (a k : Nat) : Nat → Int32 := fun j => if a + 1 ≤ j ∧ j < a + k then f (j + 2) else f j
def ct_X10_addRecord : List (Nat × CI) := [(105, ci_X10_records)]
def ci_X10_addRecord : CI := (yX10_addRecord, cX10_addRecord, 7, none, 5, (2, 0, 0, 42), 19, [], sp_X10_addRecord)
set_option maxRecDepth 100000 in
theorem ck_X10_addRecord : chkM ci_X10_addRecord RX10 co_X10_addRecord ct_X10_addRecord [] false false = true := by decide +kernel
set_option maxHeartbeats 4000000 in
set_option maxRecDepth 100000 in
theorem ms_X10_addRecord {g : GPT} {ot : OT} {l : Launch} (hl : l.stackTraces = false) : MS g ot l ci_X10_addRecord := by
  refine ms_of hl RX10 co_X10_addRecord ct_X10_addRecord [] false false [22,68] 81 ck_X10_addRecord (List.forall_mem_cons.mpr ⟨ms_X10_records hl, fun _ h => nomatch h⟩) ?_
  intro As μ K h
  simp only [ci_X10_addRecord, sp_X10_addRecord] at h
  split at h
  case h_2 => exact h.elim
  rename_i r c e n s
  obtain ⟨i, j, l, rfl, rfl, hi, hj, ⟨l1, l2, l3⟩, h⟩ := h
  generalize ha : 51 + 2406 * i + (2006 + 25 * j) = a at *
  refine ⟨Nat.le_of_ble_eq_true rfl, fun m pc lc st μ' ce sl => (∃ k, 1 ≤ k ∧ k ≤ 23 ∧ m = 100 - k ∧ pc = 22 ∧ l.length = 12 ∧ lc = [some (.inr (.inr (20, r))), none, none, some (.inl n), some (.inl s), some (.inl (nI a)), some (.inl (nI k))] ∧ st = [] ∧ μ' = rW μ r (shR (μ.1 (r + 1)) a k) ∧ ce = 0 ∧ sl = 0) ∨ (∃ f1 q, RR f1 a q ∧ q.length < 12 ∧ q ++ [(n, s)] = addRec l n s ∧ (∀ k, k < a ∨ a + 25 ≤ k → f1 k = μ.1 (r + 1) k) ∧ m = 0 ∧ pc = 68 ∧ lc = [some (.inr (.inr (20, r))), none, none, some (.inl n), some (.inl s), some (.inl (nI a)), none] ∧ st = [] ∧ μ' = rW μ r f1 ∧ ce = 0 ∧ sl = 0), ?_, ?_⟩
  · refine ⟨i, j, rfl, rfl, a, by rw [ha], by omega, fun h1 => ?_, fun h1 => ?_⟩
    · have h1 : ¬ μ.1 (r + 1) a = nI 12 := h1
      rw [l1, nI_eq_iff (by omega) (by omega)] at h1
      refine ⟨0, [some (.inr (.inr (20, r))), none, none, some (.inl n), some (.inl s), some (.inl (nI a)), none], ⟨rfl, rfl, rfl, ?_, trivial⟩, Or.inr ⟨μ.1 (r + 1), l, ⟨l1, l2, l3⟩, by omega, ?_, fun k _ => rfl, rfl, rfl, rfl, rfl, (rW_self μ r).symm, rfl, rfl⟩⟩
      · rw [ha]
      · unfold addRec
        rw [if_neg h1]
    · have h1 : ¬ ¬ μ.1 (r + 1) a = nI 12 := h1
      rw [l1, nI_eq_iff (by omega) (by omega), Classical.not_not] at h1
      refine ⟨100 - 1, [some (.inr (.inr (20, r))), none, none, some (.inl n), some (.inl s), some (.inl (nI a)), some (.inl (nI 1))], ⟨rfl, rfl, rfl, ?_, rfl, trivial⟩, Or.inl ⟨1, by omega, by omega, rfl, rfl, h1, rfl, rfl, ?_, rfl, rfl⟩⟩
      · rw [ha]
      · have e : shR (μ.1 (r + 1)) a 1 = μ.1 (r + 1) := by
          funext z
          unfold shR
          rw [if_neg (by omega)]
        rw [e, rW_self]
  · rintro m pc lc st μ' ce sl (⟨k, hk1, hk, rfl, rfl, hl12, rfl, rfl, rfl, rfl, rfl⟩ | ⟨f1, q, ⟨q1, q2, q3⟩, hq, he, hf, rfl, rfl, rfl, rfl, rfl, rfl, rfl⟩)
    · refine ⟨fun h1 => ?_, fun h1 => ?_⟩
      · simp only [icP, ifP, iL, iM1] at h1
        try simp only [z_nI] at h1
        try simp only [nI_add, nI_mul] at h1
        first | rw [nI_le_iff (by omega) (by omega)] at h1 | rw [nI_lt_iff (by omega) (by omega)] at h1 | rw [nI_eq_iff (by omega) (by omega)] at h1
        obtain rfl : k = 23 := by omega
        have e0 : shR (μ.1 (r + 1)) a 23 a = nI 12 := by
          unfold shR
          rw [if_neg (by omega), l1, hl12]
        refine ⟨a, rfl, by omega, a, rfl, by omega, 0, [some (.inr (.inr (20, r))), none, none, some (.inl n), some (.inl s), some (.inl (nI a)), none], by omega, ⟨rfl, rfl, rfl, rfl, trivial⟩, Or.inr ⟨upd (shR (μ.1 (r + 1)) a 23) a (nI 11), l.drop 1, ⟨?_, ?_, fun z p hz => ?_⟩, ?_, ?_, fun z hz => ?_, rfl, rfl, rfl, rfl, ?_, rfl, rfl⟩⟩
        · rw [upd_eq, List.length_drop, hl12]
        · rw [List.length_drop]; omega
        · have hz2 : z < (l.drop 1).length := (List.getElem?_eq_some_iff.mp hz).1
          rw [List.length_drop] at hz2
          rw [List.getElem?_drop] at hz
          obtain ⟨b1, b2⟩ := l3 _ p hz
          rw [upd_ne _ _ (by omega), upd_ne _ _ (by omega)]
          unfold shR
          rw [if_pos (by omega), if_pos (by omega), ← b1, ← b2]
          have g1 : a + 1 + 2 * z + 2 = a + 1 + 2 * (1 + z) := by omega
          have g2 : a + 2 + 2 * z + 2 = a + 2 + 2 * (1 + z) := by omega
          rw [g1, g2]
          exact ⟨rfl, rfl⟩
        · rw [List.length_drop]; omega
        · unfold addRec
          rw [if_pos hl12]
        · rw [upd_ne _ _ (by omega)]
          unfold shR
          rw [if_neg (by omega)]
        · show ((up2 (rW μ r _).1 (r + 1) a ((rW μ r _).1 (r + 1) a - Int32.ofInt 1), (rW μ r _).2) : MM) = _
          rw [up2_rW, rW_rW, rW_at, e0]
          rfl
      · simp only [icP, ifP, iL, iM1] at h1
        try simp only [z_nI] at h1
        try simp only [nI_add, nI_mul] at h1
        first | rw [nI_le_iff (by omega) (by omega)] at h1 | rw [nI_lt_iff (by omega) (by omega)] at h1 | rw [nI_eq_iff (by omega) (by omega)] at h1
        refine ⟨a + k + 2, ?_, by omega, a + k, nI_add a k, by omega, 100 - (k + 1), [some (.inr (.inr (20, r))), none, none, some (.inl n), some (.inl s), some (.inl (nI a)), some (.inl (nI (k + 1)))], by omega, ⟨rfl, rfl, rfl, rfl, inc_tv k, trivial⟩, Or.inl ⟨k + 1, by omega, by omega, rfl, rfl, hl12, rfl, rfl, ?_, rfl, rfl⟩⟩
        · show nI a + nI k + nI 2 = _
          rw [nI_add, nI_add]
        · show ((up2 (rW μ r _).1 (r + 1) (a + k) ((rW μ r _).1 (r + 1) (a + k + 2)), (rW μ r _).2) : MM) = _
          rw [up2_rW, rW_rW, rW_at]
          congr 1
          funext z
          by_cases hz : z = a + k
          · subst hz
            rw [upd_eq]
            unfold shR
            rw [if_neg (by omega), if_pos (by omega)]
          · rw [upd_ne _ _ hz]
            unfold shR
            by_cases hz2 : a + 1 ≤ z ∧ z < a + k
            · rw [if_pos hz2, if_pos (by omega)]
            · rw [if_neg hz2, if_neg (by omega)]
    · have e0 : (rW μ r f1).1 (r + 1) a = nI q.length := by rw [rW_at]; exact q1
      refine ⟨a, rfl, by omega, a + 1 + 2 * q.length, ?_, by omega, a, rfl, by omega, a + 2 + 2 * q.length, ?_, by omega, a, rfl, by omega, a, rfl, by omega, ?_⟩
      · show nI a + nI 1 + nI 2 * (rW μ r f1).1 (r + 1) a = _
        rw [e0, nI_add, nI_mul, nI_add]
      · show nI a + nI 2 + nI 2 * (up2 (rW μ r f1).1 (r + 1) (a + 1 + 2 * q.length) n) (r + 1) a = _
        rw [up2_at, upd_ne _ _ (by omega), e0, nI_add, nI_mul, nI_add]
      · show K _ (up2 (up2 (up2 (rW μ r f1).1 (r + 1) (a + 1 + 2 * q.length) n) (r + 1) (a + 2 + 2 * q.length) s) (r + 1) a ((up2 (up2 (rW μ r f1).1 (r + 1) (a + 1 + 2 * q.length) n) (r + 1) (a + 2 + 2 * q.length) s) (r + 1) a + Int32.ofInt 1), (rW μ r f1).2)
        have e3 : (up2 (up2 (rW μ r f1).1 (r + 1) (a + 1 + 2 * q.length) n) (r + 1) (a + 2 + 2 * q.length) s) (r + 1) a = nI q.length := by
          rw [up2_at, upd_ne _ _ (by omega), up2_at, upd_ne _ _ (by omega), e0]
        rw [e3]
        simp only [up2_stF, stF_stF, stF_at, rW_at]
        have e4 : nI q.length + Int32.ofInt 1 = nI (q.length + 1) := nI_add _ 1
        rw [e4]
        have e5 := h (upd (upd (upd f1 (a + 1 + 2 * q.length) n) (a + 2 + 2 * q.length) s) a (nI (q.length + 1))) ⟨?_, ?_, fun z p hz => ?_⟩ fun z hz => ?_
        · have e6 : (stF (rW μ r f1).1 (r + 1) (upd (upd (upd f1 (a + 1 + 2 * q.length) n) (a + 2 + 2 * q.length) s) a (nI (q.length + 1))), (rW μ r f1).2) = rW μ r (upd (upd (upd f1 (a + 1 + 2 * q.length) n) (a + 2 + 2 * q.length) s) a (nI (q.length + 1))) := by
            unfold rW
            rw [stF_stF]
          rw [e6]
          exact e5
        · rw [upd_eq, ← he, List.length_append]
          rfl
        · rw [← he, List.length_append]
          show q.length + 1 ≤ 12
          omega
        · rw [← he] at hz
          by_cases hzq : z < q.length
          · rw [List.getElem?_append_left hzq] at hz
            obtain ⟨b1, b2⟩ := q3 z p hz
            rw [upd_ne _ _ (by omega), upd_ne _ _ (by omega), upd_ne _ _ (by omega), upd_ne _ _ (by omega), upd_ne _ _ (by omega), upd_ne _ _ (by omega)]
            exact ⟨b1, b2⟩
          · have hzl : z < (q ++ [(n, s)]).length := (List.getElem?_eq_some_iff.mp hz).1
            rw [List.length_append] at hzl
            have hzl : z < q.length + 1 := hzl
            obtain rfl : z = q.length := by omega
            rw [List.getElem?_append_right (Nat.le_refl _), Nat.sub_self] at hz
            cases hz
            refine ⟨?_, ?_⟩
            · rw [upd_ne _ _ (by omega), upd_ne _ _ (by omega), upd_eq]
            · rw [upd_ne _ _ (by omega), upd_eq]
        · rw [upd_ne _ _ (by omega), upd_ne _ _ (by omega), upd_ne _ _ (by omega)]
          exact hf z hz
end
section
/-! THE REFERENCE: an entry is received, is settled; a priority is raised; an entry is put. -/
theorem recS_ok {l : List (Int32 × Int32)} (h : ∀ q ∈ l, sOK q.2) (n : Int32) : sOK (recS l n) := by
  unfold recS
  cases hf : l.find? (fun q => decide (q.1 = n)) with
  | none => exact Or.inl rfl
  | some q => exact h q (List.mem_of_find?_eq_some hf)
theorem eN_of {en : EN} {e : Nat} (h : en 1 = nI e) (he : e < 16) : eN en = e := by
  unfold eN
  rw [h]
  exact sN_nI (by omega)
theorem RU.self {μ : MM} {r i : Nat} {X : CS} {K : MM → Prop} (h : RU μ r i X K) (hX : RC (μ.1 (r + 1)) i X) : K μ := by
  have := h (μ.1 (r + 1)) hX fun k _ => rfl
  rw [rW_self] at this
  exact this
theorem RU.S {μ : MM} {r i k : Nat} {X : CS} {v : Int32} {K : MM → Prop} (h : RU μ r i (setS X k v) K) (hk : k < 16) (hX : RC (μ.1 (r + 1)) i X) : K (rW μ r (upd (μ.1 (r + 1)) (51 + 2406 * i + k) v)) :=
  h _ (hX.S hk v) fun z hz => upd_ne _ _ (by omega)
def sp_X10_receiveEntry : SPc := fun As μ K => match As with
  | [.inr (.inr (20, r)), .inl c, .inl n, .inl a'] => ∃ (i a : Nat) (X : CS) (en : EN), c = nI i ∧ a' = nI a ∧ i < 3 ∧ RC (μ.1 (r + 1)) i X ∧ (∀ k, k < 5 → μ.1 (r + 1) (a + k) = en k) ∧ a + 5 ≤ 7269 ∧ enOK en ∧ apN (cR X (eN en)) ∧ (∀ q ∈ cR X (eN en), sOK q.2) ∧ RU μ r i (rcvE n X en) (K (.inl none))
  | _ => False
def ct_X10_receiveEntry : List (Nat × CI) := [(108, ci_X10_lastNumber), (111, ci_X10_recordState), (115, ci_X10_add), (119, ci_X10_mixed), (122, ci_X10_addRecord)]
def ci_X10_receiveEntry : CI := (yX10_receiveEntry, cX10_receiveEntry, 7, none, 4, (3, 0, 0, 68), 19, [], sp_X10_receiveEntry)
set_option maxRecDepth 100000 in
theorem ck_X10_receiveEntry : chkM ci_X10_receiveEntry RX10 co_X10_receiveEntry ct_X10_receiveEntry [] false false = true := by decide +kernel
set_option maxHeartbeats 4000000 in
set_option maxRecDepth 100000 in
theorem ms_X10_receiveEntry {g : GPT} {ot : OT} {l : Launch} (hl : l.stackTraces = false) : MS g ot l ci_X10_receiveEntry := by
  refine ms0_of hl RX10 co_X10_receiveEntry ct_X10_receiveEntry [] false false 76 ck_X10_receiveEntry (List.forall_mem_cons.mpr ⟨ms_X10_lastNumber hl, List.forall_mem_cons.mpr ⟨ms_X10_recordState hl, List.forall_mem_cons.mpr ⟨ms_X10_add hl, List.forall_mem_cons.mpr ⟨ms_X10_mixed hl, List.forall_mem_cons.mpr ⟨ms_X10_addRecord hl, fun _ h => nomatch h⟩⟩⟩⟩⟩) ?_
  intro As μ K h
  simp only [ci_X10_receiveEntry, sp_X10_receiveEntry] at h
  split at h
  case h_2 => exact h.elim
  rename_i r c n a'
  obtain ⟨i, a, X, en, rfl, rfl, hi, hX, hen, ha, hok, hap, hs, h⟩ := h
  obtain ⟨o1, ⟨e, he, o2⟩, ⟨m, hm, o3⟩, o4, o5⟩ := hok
  have e0 := eN_of o2 he
  unfold rcvE at h
  rw [e0] at h hap hs
  have en0 : μ.1 (r + 1) a = en 0 := hen 0 (by omega)
  have en1 : μ.1 (r + 1) (a + 1) = nI e := (hen 1 (by omega)).trans o2
  have en2 : μ.1 (r + 1) (a + 2) = en 2 := hen 2 (by omega)
  have en3 : μ.1 (r + 1) (a + 3) = nI m := (hen 3 (by omega)).trans o3
  have en4 : μ.1 (r + 1) (a + 4) = en 4 := hen 4 (by omega)
  have hR : RR (μ.1 (r + 1)) (51 + 2406 * i + (2006 + 25 * e)) (cR X e) := hX.2.2.2.2 e he
  refine ⟨Nat.le_of_ble_eq_true rfl, _, nI_add _ 1, by omega, i, e, cR X e, rfl, en1, hi, he, hR, fun h1 => ?_, fun h1 => ?_⟩
  · have h1 : lastN (cR X e) < n := h1
    rw [if_neg (Int32.not_le.mpr h1)] at h
    refine ⟨_, nI_add _ 4, by omega, a, rfl, by omega, fun h2 => ?_, fun h2 => ?_⟩
    · have h2 : ¬ μ.1 (r + 1) a = 2 := h2
      rw [en0] at h2
      rw [if_neg h2] at h
      refine ⟨a, rfl, by omega, fun h3 => ?_, fun h3 => ?_⟩
      · refine ⟨i, e, cR X e, rfl, en1, hi, he, hR, fun f' hf hg => h f' (hX.R he ?_ hg) fun k hk => hg k (by omega)⟩
        rw [en4] at hf
        exact hf
      · have h3 : ¬ ¬ μ.1 (r + 1) a = 0 := h3
        rw [en0, Classical.not_not] at h3
        refine ⟨i, e, cR X e, rfl, en1, hi, he, hR, fun f' hf hg => h f' (hX.R he ?_ hg) fun k hk => hg k (by omega)⟩
        rw [o4 h3]
        exact hf
    · have h2 : ¬ ¬ μ.1 (r + 1) a = 2 := h2
      rw [en0, Classical.not_not] at h2
      have h20 : ¬ en 0 = 0 := by rw [h2]; decide
      rw [if_pos h2] at h
      refine ⟨_, nI_add _ 2, by omega, i, e, cR X e, rfl, en1, hi, he, hR, hap, fun h3 => ?_, fun h3 => ?_⟩
      · have h3 : ¬ recS (cR X e) (μ.1 (r + 1) (a + 2)) = -1 := h3
        rw [en2] at h3
        rw [if_neg h3] at h
        obtain ⟨b1, b2, b3, b4⟩ := sOK_ne (recS_ok hs (en 2)) h3
        obtain ⟨c1, c2, c3⟩ := o5 h20
        refine ⟨_, nI_add _ 3, by omega, b1, c1, m, ?_, en4.trans c3, en3, b2, c2, hm, a, rfl, by omega, fun h4 => ?_, fun h4 => ?_⟩
        · rw [en2]; exact b3
        · refine ⟨i, e, cR X e, rfl, en1, hi, he, hR, fun f' hf hg => h f' (hX.R he ?_ hg) fun k hk => hg k (by omega)⟩
          rw [b4, c3, sN_nI c2, o3, sN_nI (by omega)]
          exact hf
        · have h4 : ¬ ¬ μ.1 (r + 1) a = 0 := h4
          rw [en0, Classical.not_not] at h4
          exact absurd h4 h20
      · have h3 : ¬ ¬ recS (cR X e) (μ.1 (r + 1) (a + 2)) = -1 := h3
        rw [en2, Classical.not_not] at h3
        rw [if_pos h3] at h
        have hc : μ.1 (r + 1) (51 + 2406 * i + 13) = cS X 13 := hX.1 13 (by omega)
        refine ⟨i, 13, rfl, rfl, by omega, ?_⟩
        have := h.S (by omega) hX
        rw [← hc] at this
        exact this
  · have h1 : ¬ lastN (cR X e) < n := h1
    rw [if_pos (Int32.not_lt.mp h1)] at h
    exact h.self hX
def sp_X10_settle : SPc := fun As μ K => match As with
  | [.inr (.inr (20, r)), .inl c, .inl n, .inl a'] => ∃ (i a : Nat) (X : CS) (en : EN), c = nI i ∧ a' = nI a ∧ i < 3 ∧ RC (μ.1 (r + 1)) i X ∧ (∀ k, k < 5 → μ.1 (r + 1) (a + k) = en k) ∧ (51 + 2406 * i + 66 ≤ a ∧ a + 5 ≤ 51 + 2406 * i + 1958) ∧ enOK en ∧ RU μ r i (setl n X en) (K (.inl none))
  | _ => False
def ct_X10_settle : List (Nat × CI) := [(83, ci_X10_base)]
def ci_X10_settle : CI := (yX10_settle, cX10_settle, 5, none, 4, (2, 0, 0, 42), 19, [], sp_X10_settle)
set_option maxRecDepth 100000 in
theorem ck_X10_settle : chkM ci_X10_settle RX10 co_X10_settle ct_X10_settle [] false false = true := by decide +kernel
set_option maxHeartbeats 4000000 in
set_option maxRecDepth 100000 in
theorem ms_X10_settle {g : GPT} {ot : OT} {l : Launch} (hl : l.stackTraces = false) : MS g ot l ci_X10_settle := by
  refine ms0_of hl RX10 co_X10_settle ct_X10_settle [] false false 49 ck_X10_settle (List.forall_mem_cons.mpr ⟨ms_X10_base hl, fun _ h => nomatch h⟩) ?_
  intro As μ K h
  simp only [ci_X10_settle, sp_X10_settle] at h
  split at h
  case h_2 => exact h.elim
  rename_i r c n a'
  obtain ⟨i, a, X, en, rfl, rfl, hi, hX, hen, ⟨ha1, ha2⟩, hok, h⟩ := h
  obtain ⟨o1, ⟨e, he, o2⟩, ⟨m, hm, o3⟩, o4, o5⟩ := hok
  have e0 := eN_of o2 he
  unfold setl at h
  rw [e0] at h
  have en0 : μ.1 (r + 1) a = en 0 := hen 0 (by omega)
  have en1 : μ.1 (r + 1) (a + 1) = nI e := (hen 1 (by omega)).trans o2
  have en4 : μ.1 (r + 1) (a + 4) = en 4 := hen 4 (by omega)
  have b1 : μ.1 (r + 1) (51 + 2406 * i + (1958 + 3 * e) + 1) = cB X e 1 := hX.2.2.2.1 e he 1 (by omega)
  refine ⟨Nat.le_of_ble_eq_true rfl, _, nI_add _ 1, by omega, i, e, rfl, en1, _, nI_add _ 1, by omega, fun h1 => ?_, fun h1 => ?_⟩
  · have h1 : n ≤ μ.1 (r + 1) (51 + 2406 * i + (1958 + 3 * e) + 1) := h1
    rw [b1] at h1
    rw [if_neg (Int32.not_lt.mpr h1)] at h
    exact h.self hX
  · have h1 : ¬ n ≤ μ.1 (r + 1) (51 + 2406 * i + (1958 + 3 * e) + 1) := h1
    rw [b1] at h1
    rw [if_pos (Int32.not_le.mp h1)] at h
    have hX2 := (hX.B he (k := 1) (by omega) n).B he (k := 2) (by omega) (en 4)
    have fin := h _ hX2 fun z hz => by rw [upd_ne _ _ (by omega), upd_ne _ _ (by omega)]
    have rd : ∀ k, k < 5 → up2 μ.1 (r + 1) (51 + 2406 * i + (1958 + 3 * e) + 1) n (r + 1) (a + k) = en k := fun k hk => by
      rw [up2_at, upd_ne _ _ (by omega)]
      exact hen k hk
    have mem : ∀ x, x = en 4 → ((up2 (up2 μ.1 (r + 1) (51 + 2406 * i + (1958 + 3 * e) + 1) n) (r + 1) (51 + 2406 * i + (1958 + 3 * e) + 2) x, μ.2) : MM) = rW μ r (upd (upd (μ.1 (r + 1)) (51 + 2406 * i + (1958 + 3 * e) + 1) n) (51 + 2406 * i + (1958 + 3 * e) + 2) (en 4)) := fun x hx => by
      simp only [up2_stF, stF_stF, stF_at, hx]
      rfl
    refine ⟨_, nI_add _ 1, by omega, a, rfl, by omega, fun h2 => ?_, fun h2 => ?_⟩
    · refine ⟨_, nI_add _ 4, by omega, _, nI_add _ 2, by omega, ?_⟩
      rw [← mem _ (rd 4 (by omega))] at fin
      exact fin
    · have h2 : ¬ ¬ up2 μ.1 (r + 1) (51 + 2406 * i + (1958 + 3 * e) + 1) n (r + 1) a = 0 := h2
      have h2 : en 0 = 0 := (rd 0 (by omega)).symm.trans (Classical.not_not.mp h2)
      refine ⟨_, nI_add _ 2, by omega, ?_⟩
      rw [← mem (-1) (o4 h2).symm] at fin
      exact fin
theorem dst_sub (x : Int32) : nI 32 - x = 32 - x := rfl
theorem prt2_lt (n : Nat) : prt n 2 < 4 := by simp only [prt]; omega
def sp_X10_raise : SPc := fun As μ K => match As with
  | [.inr (.inr (20, r)), .inl c, .inl e] => ∃ (i j : Nat) (X : CS) (E : Nat → Nat → Int32), c = nI i ∧ e = nI j ∧ i < 3 ∧ j < 16 ∧ RC (μ.1 (r + 1)) i X ∧ (μ.1 (r + 1) (3 + 3 * j) = E j 0 ∧ sOK (E j 0)) ∧ RU μ r i (setB X j 0 (rsd X E j)) (K (.inl none))
  | _ => False
theorem RU.B {μ : MM} {r i e k : Nat} {X : CS} {v : Int32} {K : MM → Prop} (h : RU μ r i (setB X e k v) K) (he : e < 16) (hk : k < 3) (hX : RC (μ.1 (r + 1)) i X) : K (rW μ r (upd (μ.1 (r + 1)) (51 + 2406 * i + (1958 + 3 * e) + k) v)) :=
  h _ (hX.B he hk v) fun z hz => upd_ne _ _ (by omega)
def ct_X10_raise : List (Nat × CI) := [(83, ci_X10_base), (102, ci_X10_isInArea), (53, ci_X10_stateOf), (41, ci_X10_part), (144, ci_X10_weight), (99, ci_X10_distance)]
def ci_X10_raise : CI := (yX10_raise, cX10_raise, 6, none, 3, (4, 0, 0, 89), 19, [], sp_X10_raise)
set_option maxRecDepth 100000 in
theorem ck_X10_raise : chkM ci_X10_raise RX10 co_X10_raise ct_X10_raise [] false false = true := by decide +kernel
set_option maxHeartbeats 4000000 in
set_option maxRecDepth 100000 in
theorem ms_X10_raise {g : GPT} {ot : OT} {l : Launch} (hl : l.stackTraces = false) : MS g ot l ci_X10_raise := by
  refine ms0_of hl RX10 co_X10_raise ct_X10_raise [] false false 73 ck_X10_raise (List.forall_mem_cons.mpr ⟨ms_X10_base hl, List.forall_mem_cons.mpr ⟨ms_X10_isInArea hl, List.forall_mem_cons.mpr ⟨ms_X10_stateOf hl, List.forall_mem_cons.mpr ⟨ms_X10_part hl, List.forall_mem_cons.mpr ⟨ms_X10_weight hl, List.forall_mem_cons.mpr ⟨ms_X10_distance hl, fun _ h => nomatch h⟩⟩⟩⟩⟩⟩) ?_
  intro As μ K h
  simp only [ci_X10_raise, sp_X10_raise] at h
  split at h
  case h_2 => exact h.elim
  rename_i r c e
  obtain ⟨i, j, X, E, rfl, rfl, hi, hj, hX, ⟨e1, e2⟩, h⟩ := h
  have b0 : μ.1 (r + 1) (51 + 2406 * i + (1958 + 3 * j)) = cB X j 0 := hX.2.2.2.1 j hj 0 (by omega)
  have b2 : μ.1 (r + 1) (51 + 2406 * i + (1958 + 3 * j) + 2) = cB X j 2 := hX.2.2.2.1 j hj 2 (by omega)
  have fin : ∀ x, x = rsd X E j → K (.inl none) (up2 μ.1 (r + 1) (51 + 2406 * i + (1958 + 3 * j)) x, μ.2) := fun x hx => by
    have := h.B hj (by omega) hX
    rw [hx, up2_rW]
    exact this
  refine ⟨Nat.le_of_ble_eq_true rfl, i, j, rfl, rfl, _, nI_add _ 2, by omega, i, j, X, rfl, rfl, hi, hj, hX, e1 ▸ e2, fun h1 => ?_, fun h1 => ⟨j, rfl, hj, fun h2 => ⟨fun h3 => ?_, fun h3 => absurd rfl h3⟩, fun h2 => ⟨fun h3 => absurd (show (1 : Int32) = 0 from h3) (by decide), fun h3 => ?_⟩⟩⟩
  · have h1 : iB (inA X (μ.1 (r + 1) (3 + 3 * j))) = 0 := h1
    rw [iB_eq0, e1] at h1
    refine ⟨fun h2 => ?_, fun h2 => ⟨_, rfl, by omega, _, rfl, by omega, ?_⟩⟩
    · have h2 : μ.1 (r + 1) (51 + 2406 * i + (1958 + 3 * j) + 2) = -1 := h2
      rw [b2] at h2
      refine ⟨_, rfl, by omega, fin 0 ?_⟩
      unfold rsd
      rw [if_neg h1, if_neg (fun q => q h2)]
    · have h2 : ¬ μ.1 (r + 1) (51 + 2406 * i + (1958 + 3 * j) + 2) = -1 := h2
      rw [b2] at h2
      refine fin (μ.1 (r + 1) (51 + 2406 * i + (1958 + 3 * j)) + 100) ?_
      unfold rsd
      rw [if_neg h1, if_pos h2, b0]
  · have h1 : ¬ iB (inA X (μ.1 (r + 1) (3 + 3 * j))) = 0 := h1
    rw [iB_ne0, e1] at h1
    have h2 : μ.1 (r + 1) (51 + 2406 * i + (1958 + 3 * j) + 2) = μ.1 (r + 1) (3 + 3 * j) := h2
    rw [b2, e1] at h2
    refine ⟨_, rfl, by omega, fin 0 ?_⟩
    unfold rsd
    rw [if_pos h1, if_neg (fun q => q h2)]
  · have h1 : ¬ iB (inA X (μ.1 (r + 1) (3 + 3 * j))) = 0 := h1
    rw [iB_ne0, e1] at h1
    have h2 : ¬ μ.1 (r + 1) (51 + 2406 * i + (1958 + 3 * j) + 2) = μ.1 (r + 1) (3 + 3 * j) := h2
    rw [b2, e1] at h2
    obtain ⟨n1, n2⟩ := sOK_n e2 h1.1
    have n3 := prt2_lt (sN (E j 0))
    refine ⟨_, rfl, by omega, j, rfl, hj, sN (E j 0), 2, e1.trans n2, rfl, n1, by omega, prt (sN (E j 0)) 2, rfl, n3, i, j, sN (E j 0), X, rfl, rfl, hi, hj, hX, e1.trans n2, n1, _, rfl, by omega, ?_⟩
    refine fin (μ.1 (r + 1) (51 + 2406 * i + (1958 + 3 * j)) + nI (2 ^ prt (sN (E j 0)) 2) * (32 - dstC X (E j 0))) ?_
    unfold rsd
    rw [if_pos h1, if_pos h2, b0]
end
section
/-! THE REFERENCE puts an entry; a packet is launched. -/
def putF (f : Nat → Int32) (a : Nat) (en : EN) (k : Nat) : Nat → Int32 := fun z => if a ≤ z ∧ z < a + k then en (z - a) else f z
theorem putF_0 (f : Nat → Int32) (a : Nat) (en : EN) : putF f a en 0 = f := by
  funext z
  unfold putF
  rw [if_neg (by omega)]
theorem putF_S (f : Nat → Int32) (a : Nat) (en : EN) (k : Nat) : upd (putF f a en k) (a + k) (en k) = putF f a en (k + 1) := by
  funext z
  by_cases hz : z = a + k
  · subst hz
    rw [upd_eq]
    unfold putF
    rw [if_pos (by omega)]
    congr 1
    omega
  · rw [upd_ne _ _ hz]
    unfold putF
    by_cases hz2 : a ≤ z ∧ z < a + k
    · rw [if_pos hz2, if_pos (by omega)]
    · rw [if_neg hz2, if_neg (by omega)]
theorem putF_ne (f : Nat → Int32) {a z : Nat} (en : EN) {k : Nat} (h : z < a ∨ a + k ≤ z) : putF f a en k z = f z := by
  unfold putF
  rw [if_neg (by omega)]
theorem putF_at (f : Nat → Int32) (a : Nat) (en : EN) {k j : Nat} (h : j < k) : putF f a en k (a + j) = en j := by
  unfold putF
  rw [if_pos (by omega)]
  congr 1
  omega
def sp_X10_putEntry : SPc := fun As μ K => match As with
  | [.inr (.inr (20, r)), .inl c, .inl a', .inl e] => ∃ (i a j : Nat) (X : CS) (E : Nat → Nat → Int32), c = nI i ∧ a' = nI a ∧ e = nI j ∧ i < 3 ∧ j < 16 ∧ RC (μ.1 (r + 1)) i X ∧ (51 + 2406 * i + 66 ≤ a ∧ a + 5 ≤ 51 + 2406 * i + 1958) ∧ (μ.1 (r + 1) (3 + 3 * j) = E j 0 ∧ sOK (E j 0)) ∧ sOK (cB X j 2) ∧ K (.inl none) (rW μ r (putF (μ.1 (r + 1)) a (mkE X E j) 5))
  | _ => False
theorem mem_put (μ : MM) (r a k : Nat) (en : EN) (x : Int32) (h : x = en k) : ((up2 (rW μ r (putF (μ.1 (r + 1)) a en k)).1 (r + 1) (a + k) x, (rW μ r (putF (μ.1 (r + 1)) a en k)).2) : MM) = rW μ r (putF (μ.1 (r + 1)) a en (k + 1)) := by
  rw [up2_rW, rW_rW, rW_at, h, putF_S]
def peL (r a j i : Nat) (x y : Int32) : LC := [some (.inr (.inr (20, r))), none, some (.inl (nI a)), some (.inl (nI j)), some (.inl (nI (51 + 2406 * i + (1958 + 3 * j)))), some (.inl x), some (.inl y)]
def ct_X10_putEntry : List (Nat × CI) := [(83, ci_X10_base), (102, ci_X10_isInArea), (53, ci_X10_stateOf), (147, ci_X10_mask)]
def ci_X10_putEntry : CI := (yX10_putEntry, cX10_putEntry, 7, none, 4, (4, 0, 0, 89), 19, [], sp_X10_putEntry)
set_option maxRecDepth 100000 in
theorem ck_X10_putEntry : chkM ci_X10_putEntry RX10 co_X10_putEntry ct_X10_putEntry [] false false = true := by decide +kernel
set_option maxHeartbeats 4000000 in
set_option maxRecDepth 100000 in
theorem ms_X10_putEntry {g : GPT} {ot : OT} {l : Launch} (hl : l.stackTraces = false) : MS g ot l ci_X10_putEntry := by
  refine ms_of hl RX10 co_X10_putEntry ct_X10_putEntry [] false false [40,65,74,105,149] 104 ck_X10_putEntry (List.forall_mem_cons.mpr ⟨ms_X10_base hl, List.forall_mem_cons.mpr ⟨ms_X10_isInArea hl, List.forall_mem_cons.mpr ⟨ms_X10_stateOf hl, List.forall_mem_cons.mpr ⟨ms_X10_mask hl, fun _ h => nomatch h⟩⟩⟩⟩) ?_
  intro As μ K h
  simp only [ci_X10_putEntry, sp_X10_putEntry] at h
  split at h
  case h_2 => exact h.elim
  rename_i r c a' e
  obtain ⟨i, a, j, X, E, rfl, rfl, rfl, hi, hj, hX, ⟨ha1, ha2⟩, ⟨e1, e2⟩, hb, h⟩ := h
  have b1 : μ.1 (r + 1) (51 + 2406 * i + (1958 + 3 * j) + 1) = cB X j 1 := hX.2.2.2.1 j hj 1 (by omega)
  have b2 : μ.1 (r + 1) (51 + 2406 * i + (1958 + 3 * j) + 2) = cB X j 2 := hX.2.2.2.1 j hj 2 (by omega)
  have r1 : ∀ k, k ≤ 5 → (rW μ r (putF (μ.1 (r + 1)) a (mkE X E j) k)).1 (r + 1) (51 + 2406 * i + (1958 + 3 * j) + 1) = cB X j 1 := fun k hk => by
    rw [rW_at, putF_ne _ _ (by omega)]
    exact b1
  have r2 : ∀ k, k ≤ 5 → (rW μ r (putF (μ.1 (r + 1)) a (mkE X E j) k)).1 (r + 1) (51 + 2406 * i + (1958 + 3 * j) + 2) = cB X j 2 := fun k hk => by
    rw [rW_at, putF_ne _ _ (by omega)]
    exact b2
  have r3 : ∀ k, k ≤ 5 → (rW μ r (putF (μ.1 (r + 1)) a (mkE X E j) k)).1 (r + 1) (3 + 3 * j) = E j 0 := fun k hk => by
    rw [rW_at, putF_ne _ _ (by omega)]
    exact e1
  refine ⟨Nat.le_of_ble_eq_true rfl, fun m pc lc st μ' ce sl => ∃ k, lc = peL r a j i (iB (inA X (E j 0))) (iB (inA X (E j 0) ∧ cB X j 2 = -1)) ∧ st = [] ∧ μ' = rW μ r (putF (μ.1 (r + 1)) a (mkE X E j) k) ∧ ce = 0 ∧ sl = 0 ∧ ((k = 0 ∧ pc = 40 ∧ m = 5) ∨ (k = 1 ∧ pc = 65 ∧ m = 4) ∨ (k = 2 ∧ pc = 74 ∧ m = 3) ∨ (k = 3 ∧ pc = 105 ∧ m = 2) ∨ (k = 4 ∧ pc = 149 ∧ m = 1)), ?_, ?_⟩
  · have ent : ∀ x, x = iB (inA X (E j 0) ∧ cB X j 2 = -1) → ∃ n lc', subL lc' [some (.inr (.inr (20, r))), some (.inl (nI i)), some (.inl (nI a)), some (.inl (nI j)), some (.inl (nI (51 + 2406 * i + (1958 + 3 * j)))), some (.inl (iB (inA X (μ.1 (r + 1) (3 + 3 * j))))), some (.inl x)] ∧ ∃ k, lc' = peL r a j i (iB (inA X (E j 0))) (iB (inA X (E j 0) ∧ cB X j 2 = -1)) ∧ ([] : List TV) = [] ∧ μ = rW μ r (putF (μ.1 (r + 1)) a (mkE X E j) k) ∧ 0 = 0 ∧ 0 = 0 ∧ ((k = 0 ∧ 40 = 40 ∧ n = 5) ∨ (k = 1 ∧ 40 = 65 ∧ n = 4) ∨ (k = 2 ∧ 40 = 74 ∧ n = 3) ∨ (k = 3 ∧ 40 = 105 ∧ n = 2) ∨ (k = 4 ∧ 40 = 149 ∧ n = 1)) := fun x hx => by
      refine ⟨5, peL r a j i (iB (inA X (E j 0))) (iB (inA X (E j 0) ∧ cB X j 2 = -1)), ⟨rfl, rfl, rfl, rfl, ?_, ?_, trivial⟩, 0, rfl, rfl, ?_, rfl, rfl, Or.inl ⟨rfl, rfl, rfl⟩⟩
      · simp only [e1]
      · rw [hx]
      · rw [putF_0, rW_self]
    refine ⟨i, j, rfl, rfl, i, j, X, rfl, rfl, hi, hj, hX, e1 ▸ e2, fun h1 => ?_, fun h1 => ⟨_, nI_add _ 2, by omega, fun h2 => ?_, fun h2 => ?_⟩⟩
    · have h1 : iB (inA X (μ.1 (r + 1) (3 + 3 * j))) = 0 := h1
      rw [iB_eq0, e1] at h1
      exact ent 0 (iB_0 fun q => h1 q.1).symm
    · have h2 : ¬ μ.1 (r + 1) (51 + 2406 * i + (1958 + 3 * j) + 2) = -1 := h2
      rw [b2] at h2
      exact ent 0 (iB_0 fun q => h2 q.2).symm
    · have h1 : ¬ iB (inA X (μ.1 (r + 1) (3 + 3 * j))) = 0 := h1
      rw [iB_ne0, e1] at h1
      have h2 : ¬ ¬ μ.1 (r + 1) (51 + 2406 * i + (1958 + 3 * j) + 2) = -1 := h2
      rw [b2, Classical.not_not] at h2
      exact ent 1 (iB_1 ⟨h1, h2⟩).symm
  · rintro m pc lc st μ' ce sl ⟨k, rfl, rfl, rfl, rfl, rfl, (⟨rfl, rfl, rfl⟩ | ⟨rfl, rfl, rfl⟩ | ⟨rfl, rfl, rfl⟩ | ⟨rfl, rfl, rfl⟩ | ⟨rfl, rfl, rfl⟩)⟩
    · have go : ∀ x, x = mkE X E j 0 → _ := fun x hx => mem_put μ r a 0 (mkE X E j) x hx
      refine ⟨fun h1 => ⟨fun h2 => ⟨a, rfl, by omega, 4, peL r a j i (iB (inA X (E j 0))) (iB (inA X (E j 0) ∧ cB X j 2 = -1)), by omega, ⟨rfl, rfl, rfl, rfl, rfl, rfl, trivial⟩, 1, rfl, rfl, go 2 ?_, rfl, rfl, Or.inr (Or.inl ⟨rfl, rfl, rfl⟩)⟩, fun h2 => ⟨a, rfl, by omega, 4, peL r a j i (iB (inA X (E j 0))) (iB (inA X (E j 0) ∧ cB X j 2 = -1)), by omega, ⟨rfl, rfl, rfl, rfl, rfl, rfl, trivial⟩, 1, rfl, rfl, go 1 ?_, rfl, rfl, Or.inr (Or.inl ⟨rfl, rfl, rfl⟩)⟩⟩, fun h1 => ⟨a, rfl, by omega, 4, peL r a j i (iB (inA X (E j 0))) (iB (inA X (E j 0) ∧ cB X j 2 = -1)), by omega, ⟨rfl, rfl, rfl, rfl, rfl, rfl, trivial⟩, 1, rfl, rfl, go 0 ?_, rfl, rfl, Or.inr (Or.inl ⟨rfl, rfl, rfl⟩)⟩⟩
      · have h1 : inA X (E j 0) := (iB_ne0 _).mp h1
        have h2 : ¬ (inA X (E j 0) ∧ cB X j 2 = -1) := (iB_eq0 _).mp h2
        show 2 = (if inA X (E j 0) then (if cB X j 2 = -1 then 1 else 2) else 0)
        rw [if_pos h1, if_neg fun q => h2 ⟨h1, q⟩]
      · have h2 : (inA X (E j 0) ∧ cB X j 2 = -1) := (iB_ne0 _).mp h2
        show 1 = (if inA X (E j 0) then (if cB X j 2 = -1 then 1 else 2) else 0)
        rw [if_pos h2.1, if_pos h2.2]
      · have h1 : ¬ inA X (E j 0) := fun q => h1 ((iB_ne0 _).mpr q)
        show 0 = (if inA X (E j 0) then (if cB X j 2 = -1 then 1 else 2) else 0)
        rw [if_neg h1]
    · exact ⟨_, nI_add _ 1, by omega, 3, peL r a j i (iB (inA X (E j 0))) (iB (inA X (E j 0) ∧ cB X j 2 = -1)), by omega, ⟨rfl, rfl, rfl, rfl, rfl, rfl, trivial⟩, 2, rfl, rfl, mem_put μ r a 1 (mkE X E j) _ rfl, rfl, rfl, Or.inr (Or.inr (Or.inl ⟨rfl, rfl, rfl⟩))⟩
    · have go : ∀ x, x = mkE X E j 2 → _ := fun x hx => mem_put μ r a 2 (mkE X E j) x hx
      refine ⟨fun h1 => ⟨_, nI_add _ 2, by omega, 2, peL r a j i (iB (inA X (E j 0))) (iB (inA X (E j 0) ∧ cB X j 2 = -1)), by omega, ⟨rfl, rfl, rfl, rfl, rfl, rfl, trivial⟩, 3, rfl, rfl, go 0 ?_, rfl, rfl, Or.inr (Or.inr (Or.inr (Or.inl ⟨rfl, rfl, rfl⟩)))⟩, fun h1 => ⟨fun h2 => ⟨_, nI_add _ 2, by omega, 2, peL r a j i (iB (inA X (E j 0))) (iB (inA X (E j 0) ∧ cB X j 2 = -1)), by omega, ⟨rfl, rfl, rfl, rfl, rfl, rfl, trivial⟩, 3, rfl, rfl, go 0 ?_, rfl, rfl, Or.inr (Or.inr (Or.inr (Or.inl ⟨rfl, rfl, rfl⟩)))⟩, fun h2 => ⟨_, nI_add _ 1, by omega, _, nI_add _ 2, by omega, 2, peL r a j i (iB (inA X (E j 0))) (iB (inA X (E j 0) ∧ cB X j 2 = -1)), by omega, ⟨rfl, rfl, rfl, rfl, rfl, rfl, trivial⟩, 3, rfl, rfl, go _ ?_, rfl, rfl, Or.inr (Or.inr (Or.inr (Or.inl ⟨rfl, rfl, rfl⟩)))⟩⟩⟩
      · have h1 : ¬ inA X (E j 0) := (iB_eq0 _).mp h1
        show 0 = (if inA X (E j 0) ∧ ¬ cB X j 2 = -1 then cB X j 1 else 0)
        rw [if_neg fun q => h1 q.1]
      · have h2 : (inA X (E j 0) ∧ cB X j 2 = -1) := (iB_ne0 _).mp h2
        show 0 = (if inA X (E j 0) ∧ ¬ cB X j 2 = -1 then cB X j 1 else 0)
        rw [if_neg fun q => q.2 h2.2]
      · have h1 : inA X (E j 0) := (iB_ne0 _).mp h1
        have h2 : ¬ ¬ iB (inA X (E j 0) ∧ cB X j 2 = -1) = 0 := h2
        rw [iB_ne0] at h2
        rw [r1 2 (by omega)]
        show _ = (if inA X (E j 0) ∧ ¬ cB X j 2 = -1 then cB X j 1 else 0)
        rw [if_pos ⟨h1, fun q => h2 ⟨h1, q⟩⟩]
    · have go : ∀ x, x = mkE X E j 3 → _ := fun x hx => mem_put μ r a 3 (mkE X E j) x hx
      refine ⟨fun h1 => ⟨fun h2 => ?_, fun h2 => ⟨_, nI_add _ 3, by omega, 1, peL r a j i (iB (inA X (E j 0))) (iB (inA X (E j 0) ∧ cB X j 2 = -1)), by omega, ⟨rfl, rfl, rfl, rfl, rfl, rfl, trivial⟩, 4, rfl, rfl, go 15 ?_, rfl, rfl, Or.inr (Or.inr (Or.inr (Or.inr ⟨rfl, rfl, rfl⟩)))⟩⟩, fun h1 => ⟨_, nI_add _ 3, by omega, 1, peL r a j i (iB (inA X (E j 0))) (iB (inA X (E j 0) ∧ cB X j 2 = -1)), by omega, ⟨rfl, rfl, rfl, rfl, rfl, rfl, trivial⟩, 4, rfl, rfl, go 0 ?_, rfl, rfl, Or.inr (Or.inr (Or.inr (Or.inr ⟨rfl, rfl, rfl⟩)))⟩⟩
      · have h1 : inA X (E j 0) := (iB_ne0 _).mp h1
        have h2 : ¬ (inA X (E j 0) ∧ cB X j 2 = -1) := (iB_eq0 _).mp h2
        have h3 : ¬ cB X j 2 = -1 := fun q => h2 ⟨h1, q⟩
        obtain ⟨n1, n2, n3, n4⟩ := sOK_ne hb h3
        obtain ⟨m1, m2, m3, m4⟩ := sOK_ne e2 h1.1
        refine ⟨_, nI_add _ 2, by omega, j, rfl, hj, n1, m1, (r2 3 (by omega)).trans n3, (r3 3 (by omega)).trans m3, n2, m2, _, nI_add _ 3, by omega, 1, peL r a j i (iB (inA X (E j 0))) (iB (inA X (E j 0) ∧ cB X j 2 = -1)), by omega, ⟨rfl, rfl, rfl, rfl, rfl, rfl, trivial⟩, 4, rfl, rfl, go _ ?_, rfl, rfl, Or.inr (Or.inr (Or.inr (Or.inr ⟨rfl, rfl, rfl⟩)))⟩
        show _ = (if inA X (E j 0) then (if cB X j 2 = -1 then 15 else nI (mkN (sN (cB X j 2)) (sN (E j 0)))) else 0)
        rw [if_pos h1, if_neg h3, n4, m4]
      · have h2 : (inA X (E j 0) ∧ cB X j 2 = -1) := (iB_ne0 _).mp h2
        show 15 = (if inA X (E j 0) then (if cB X j 2 = -1 then 15 else nI (mkN (sN (cB X j 2)) (sN (E j 0)))) else 0)
        rw [if_pos h2.1, if_pos h2.2]
      · have h1 : ¬ inA X (E j 0) := fun q => h1 ((iB_ne0 _).mpr q)
        show 0 = (if inA X (E j 0) then (if cB X j 2 = -1 then 15 else nI (mkN (sN (cB X j 2)) (sN (E j 0)))) else 0)
        rw [if_neg h1]
    · have go : ∀ x, x = mkE X E j 4 → K (.inl none) (up2 (rW μ r (putF (μ.1 (r + 1)) a (mkE X E j) 4)).1 (r + 1) (a + 4) x, (rW μ r (putF (μ.1 (r + 1)) a (mkE X E j) 4)).2) := fun x hx => by
        rw [mem_put μ r a 4 (mkE X E j) x hx]
        exact h
      refine ⟨fun h1 => ⟨_, nI_add _ 4, by omega, go (-1) ?_⟩, fun h1 => ⟨j, rfl, hj, _, nI_add _ 4, by omega, go _ ?_⟩⟩
      · have h1 : ¬ inA X (E j 0) := (iB_eq0 _).mp h1
        show -1 = (if inA X (E j 0) then E j 0 else -1)
        rw [if_neg h1]
      · have h1 : inA X (E j 0) := (iB_ne0 _).mp h1
        rw [r3 4 (by omega)]
        show _ = (if inA X (E j 0) then E j 0 else -1)
        rw [if_pos h1]
end
section
/-! THE REFERENCE launches a packet. -/
def lauF5 (f : Nat → Int32) (i : Nat) (b : Int32) (n : Nat) : Nat → Int32 :=
  upd (upd (upd (upd (upd f (51 + 2406 * i + 7) (f (51 + 2406 * i + 7) + 1)) (51 + 2406 * i + 65) (f (51 + 2406 * i + 65) + 1)) (51 + 2406 * i + 8) (f (51 + 2406 * i + 8) + 1)) (51 + 2406 * i + 9) (f (51 + 2406 * i + 9) + b)) (51 + 2406 * i + 15) (f (51 + 2406 * i + 15) + nI n)
def lauF7 (f : Nat → Int32) (i : Nat) (b : Int32) (n : Nat) (x5 x10 : Int32) : Nat → Int32 := upd (upd (lauF5 f i b n) (51 + 2406 * i + 5) x5) (51 + 2406 * i + 10) x10
def lauF9 (f : Nat → Int32) (i a : Nat) (b : Int32) (n : Nat) (x5 x10 : Int32) : Nat → Int32 := upd (upd (lauF7 f i b n x5 x10) (a + 0) (f (51 + 2406 * i + 7) + 1)) (a + 2) (f 0)
def lauF (f : Nat → Int32) (i a : Nat) (b : Int32) (n : Nat) (x5 x10 x3 : Int32) : Nat → Int32 := upd (upd (lauF9 f i a b n x5 x10) (a + 3) x3) (a + 4) 1
theorem stF_rW (μ : MM) (r : Nat) (f g : Nat → Int32) : ((stF (rW μ r f).1 (r + 1) g, (rW μ r f).2) : MM) = rW μ r g := by
  unfold rW
  rw [stF_stF]
theorem lauF_ne (f : Nat → Int32) (i a : Nat) (b : Int32) (n : Nat) (x5 x10 x3 : Int32) {z : Nat} (h : ¬ z = 51 + 2406 * i + 5 ∧ ¬ z = 51 + 2406 * i + 7 ∧ ¬ z = 51 + 2406 * i + 8 ∧ ¬ z = 51 + 2406 * i + 9 ∧ ¬ z = 51 + 2406 * i + 10 ∧ ¬ z = 51 + 2406 * i + 15 ∧ ¬ z = 51 + 2406 * i + 65 ∧ ¬ z = a + 0 ∧ ¬ z = a + 2 ∧ ¬ z = a + 3 ∧ ¬ z = a + 4) : lauF f i a b n x5 x10 x3 z = f z := by
  unfold lauF lauF9 lauF7 lauF5
  obtain ⟨h1, h2, h3, h4, h5, h6, h7, h8, h9, h10, h11⟩ := h
  rw [upd_ne _ _ h11, upd_ne _ _ h10, upd_ne _ _ h9, upd_ne _ _ h8, upd_ne _ _ h5, upd_ne _ _ h1, upd_ne _ _ h6, upd_ne _ _ h4, upd_ne _ _ h3, upd_ne _ _ h7, upd_ne _ _ h2]
theorem lau_RC {f : Nat → Int32} {i a : Nat} {X : CS} {b : Int32} {ens : List EN} (hX : RC f i X) (ha : a = 51 + 2406 * i + (66 + 86 * (cP X).length)) (hl : (cP X).length ≤ 21) (hb : f (a + 1) = b) (hn : f (a + 5) = nI ens.length) (hlen : ens.length ≤ 16) (hens : ∀ (j : Nat) (en : EN), ens[j]? = some en → ∀ k, k < 5 → f (a + 6 + 5 * j + k) = en k) (x5 x10 x3 : Int32)
    (hx : (0 < cS X 5 ∧ x5 = cS X 5 + -1 ∧ x10 = cS X 10 + 1 ∧ x3 = 0) ∨ (¬ 0 < cS X 5 ∧ x5 = cS X 5 ∧ x10 = cS X 10 ∧ x3 = f 0 + f 1)) : RC (lauF f i a b ens.length x5 x10 x3) i (lau (f 0) (f 1) (b, ens, X)) := by
  obtain ⟨h1, h2, h3, h4, h5⟩ := hX
  refine ⟨fun k hk => ?_, RA.keep h2 fun z z1 z2 => lauF_ne _ _ _ _ _ _ _ _ (by omega), ⟨?_, ?_, fun j p hp => ?_⟩, RB.keep h4 fun z z1 z2 => lauF_ne _ _ _ _ _ _ _ _ (by omega), RD.keep h5 fun z z1 z2 => lauF_ne _ _ _ _ _ _ _ _ (by omega)⟩
  · show lauF f i a b ens.length x5 x10 x3 (51 + 2406 * i + k) = lauS b ens.length X k
    have hs := h1 k hk
    have c : k = 5 ∨ k = 7 ∨ k = 8 ∨ k = 9 ∨ k = 10 ∨ k = 15 ∨ (¬ k = 5 ∧ ¬ k = 7 ∧ ¬ k = 8 ∧ ¬ k = 9 ∧ ¬ k = 10 ∧ ¬ k = 15) := by omega
    rcases c with rfl | rfl | rfl | rfl | rfl | rfl | c
    · unfold lauF lauF9 lauF7 lauF5
      simp (disch := omega) only [upd_ne, upd_eq]
      show x5 = (if 0 < cS X 5 then cS X 5 + -1 else cS X 5)
      rcases hx with ⟨g, e, _⟩ | ⟨g, e, _⟩
      · rw [if_pos g, e]
      · rw [if_neg g, e]
    · unfold lauF lauF9 lauF7 lauF5
      simp (disch := omega) only [upd_ne, upd_eq]
      rw [hs]
      rfl
    · unfold lauF lauF9 lauF7 lauF5
      simp (disch := omega) only [upd_ne, upd_eq]
      rw [hs]
      rfl
    · unfold lauF lauF9 lauF7 lauF5
      simp (disch := omega) only [upd_ne, upd_eq]
      rw [hs]
      rfl
    · unfold lauF lauF9 lauF7 lauF5
      simp (disch := omega) only [upd_ne, upd_eq]
      show x10 = (if 0 < cS X 5 then cS X 10 + 1 else cS X 10)
      rcases hx with ⟨g, _, e, _⟩ | ⟨g, _, e, _⟩
      · rw [if_pos g, e]
      · rw [if_neg g, e]
    · unfold lauF lauF9 lauF7 lauF5
      simp (disch := omega) only [upd_ne, upd_eq]
      rw [hs]
      rfl
    · rw [lauF_ne _ _ _ _ _ _ _ _ (by omega), hs]
      unfold lauS
      split
      · omega
      · omega
      · omega
      · omega
      · omega
      · omega
      · rfl
  · show lauF f i a b ens.length x5 x10 x3 _ = nI (cP X ++ [(hdr (f 0) (f 1) b X, ens)]).length
    unfold lauF lauF9 lauF7 lauF5
    simp (disch := omega) only [upd_ne, upd_eq]
    rw [h3.1, List.length_append]
    exact nI_add _ 1
  · show (cP X ++ [(hdr (f 0) (f 1) b X, ens)]).length ≤ 22
    rw [List.length_append]
    show (cP X).length + 1 ≤ 22
    omega
  · have hp : (cP X ++ [(hdr (f 0) (f 1) b X, ens)])[j]? = some p := hp
    by_cases hj : j < (cP X).length
    · rw [List.getElem?_append_left hj] at hp
      exact (h3.2.2 j p hp).keep fun z z1 z2 => lauF_ne _ _ _ _ _ _ _ _ (by omega)
    · have hj2 : j < (cP X ++ [(hdr (f 0) (f 1) b X, ens)]).length := (List.getElem?_eq_some_iff.mp hp).1
      rw [List.length_append] at hj2
      have hj2 : j < (cP X).length + 1 := hj2
      obtain rfl : j = (cP X).length := by omega
      rw [List.getElem?_append_right (Nat.le_refl _), Nat.sub_self] at hp
      cases hp
      rw [← ha]
      have s7 := h1 7 (by omega)
      refine ⟨fun k hk => ?_, ?_, hlen, fun j en hj k hk => ?_⟩
      · show lauF f i a b ens.length x5 x10 x3 (a + k) = hdr (f 0) (f 1) b X k
        have c : k = 0 ∨ k = 1 ∨ k = 2 ∨ k = 3 ∨ k = 4 := by omega
        rcases c with rfl | rfl | rfl | rfl | rfl
        · unfold lauF lauF9 lauF7 lauF5
          simp (disch := omega) only [upd_ne, upd_eq]
          rw [s7]
          rfl
        · rw [lauF_ne _ _ _ _ _ _ _ _ (by omega), hb]
          rfl
        · unfold lauF lauF9 lauF7 lauF5
          simp (disch := omega) only [upd_ne, upd_eq]
          rfl
        · unfold lauF lauF9 lauF7 lauF5
          simp (disch := omega) only [upd_ne, upd_eq]
          show x3 = (if 0 < cS X 5 then 0 else f 0 + f 1)
          rcases hx with ⟨g, _, _, e⟩ | ⟨g, _, _, e⟩
          · rw [if_pos g, e]
          · rw [if_neg g, e]
        · unfold lauF lauF9 lauF7 lauF5
          simp (disch := omega) only [upd_ne, upd_eq]
          rfl
      · rw [lauF_ne _ _ _ _ _ _ _ _ (by omega)]
        exact hn
      · have hj3 : j < ens.length := (List.getElem?_eq_some_iff.mp hj).1
        rw [lauF_ne _ _ _ _ _ _ _ _ (by omega)]
        exact hens j en hj k hk
def sp_X10_launch : SPc := fun As μ K => match As with
  | [.inr (.inr (20, r)), .inl c, .inl a'] => ∃ (i a : Nat) (X : CS) (b : Int32) (ens : List EN), c = nI i ∧ a' = nI a ∧ i < 3 ∧ RC (μ.1 (r + 1)) i X ∧ a = 51 + 2406 * i + (66 + 86 * (cP X).length) ∧ (cP X).length ≤ 21 ∧ μ.1 (r + 1) (a + 1) = b ∧ μ.1 (r + 1) (a + 5) = nI ens.length ∧ ens.length ≤ 16 ∧ (∀ (j : Nat) (en : EN), ens[j]? = some en → ∀ k, k < 5 → μ.1 (r + 1) (a + 6 + 5 * j + k) = en k) ∧ RU μ r i (lau (μ.1 (r + 1) 0) (μ.1 (r + 1) 1) (b, ens, X)) (K (.inl none))
  | _ => False
def laL (r i a : Nat) (x : Int32) : LC := [some (.inr (.inr (20, r))), some (.inl (nI i)), some (.inl (nI a)), some (.inl x)]
def ct_X10_launch : List (Nat × CI) := [(115, ci_X10_add), (80, ci_X10_of)]
def ci_X10_launch : CI := (yX10_launch, cX10_launch, 4, none, 3, (2, 0, 0, 44), 19, [], sp_X10_launch)
set_option maxRecDepth 100000 in
theorem ck_X10_launch : chkM ci_X10_launch RX10 co_X10_launch ct_X10_launch [] false false = true := by decide +kernel
set_option maxHeartbeats 4000000 in
set_option maxRecDepth 100000 in
theorem ms_X10_launch {g : GPT} {ot : OT} {l : Launch} (hl : l.stackTraces = false) : MS g ot l ci_X10_launch := by
  refine ms_of hl RX10 co_X10_launch ct_X10_launch [] false false [69,100,129] 114 ck_X10_launch (List.forall_mem_cons.mpr ⟨ms_X10_add hl, List.forall_mem_cons.mpr ⟨ms_X10_of hl, fun _ h => nomatch h⟩⟩) ?_
  intro As μ K h
  simp only [ci_X10_launch, sp_X10_launch] at h
  split at h
  case h_2 => exact h.elim
  rename_i r c a'
  obtain ⟨i, a, X, b, ens, rfl, rfl, hi, hX, ha, hl, hb, hn, hlen, hens, h⟩ := h
  have s5 : μ.1 (r + 1) (51 + 2406 * i + 5) = cS X 5 := hX.1 5 (by omega)
  have s10 : μ.1 (r + 1) (51 + 2406 * i + 10) = cS X 10 := hX.1 10 (by omega)
  have fin : ∀ x5 x10 x3 : Int32, ((0 < cS X 5 ∧ x5 = cS X 5 + -1 ∧ x10 = cS X 10 + 1 ∧ x3 = 0) ∨ (¬ 0 < cS X 5 ∧ x5 = cS X 5 ∧ x10 = cS X 10 ∧ x3 = μ.1 (r + 1) 0 + μ.1 (r + 1) 1)) → K (.inl none) (rW μ r (lauF (μ.1 (r + 1)) i a b ens.length x5 x10 x3)) := fun x5 x10 x3 hx =>
    h _ (lau_RC hX ha hl hb hn hlen hens x5 x10 x3 hx) fun z hz => lauF_ne _ _ _ _ _ _ _ _ (by omega)
  have f5 : ∀ z, (¬ z = 51 + 2406 * i + 7 ∧ ¬ z = 51 + 2406 * i + 8 ∧ ¬ z = 51 + 2406 * i + 9 ∧ ¬ z = 51 + 2406 * i + 15 ∧ ¬ z = 51 + 2406 * i + 65) → lauF5 (μ.1 (r + 1)) i b ens.length z = μ.1 (r + 1) z := fun z ⟨h1, h2, h3, h4, h5⟩ => by
    unfold lauF5
    rw [upd_ne _ _ h4, upd_ne _ _ h3, upd_ne _ _ h2, upd_ne _ _ h5, upd_ne _ _ h1]
  have f7 : ∀ x5 x10 z, (¬ z = 51 + 2406 * i + 5 ∧ ¬ z = 51 + 2406 * i + 10 ∧ ¬ z = 51 + 2406 * i + 7 ∧ ¬ z = 51 + 2406 * i + 8 ∧ ¬ z = 51 + 2406 * i + 9 ∧ ¬ z = 51 + 2406 * i + 15 ∧ ¬ z = 51 + 2406 * i + 65) → lauF7 (μ.1 (r + 1)) i b ens.length x5 x10 z = μ.1 (r + 1) z := fun x5 x10 z ⟨h1, h2, h3⟩ => by
    unfold lauF7
    rw [upd_ne _ _ h2, upd_ne _ _ h1, f5 z h3]
  refine ⟨Nat.le_of_ble_eq_true rfl, fun m pc lc st μ' ce sl => (m = 3 ∧ pc = 69 ∧ lc = laL r i a (iB (0 < cS X 5)) ∧ st = [] ∧ μ' = rW μ r (lauF5 (μ.1 (r + 1)) i b ens.length) ∧ ce = 0 ∧ sl = 0) ∨
    (∃ x5 x10, ((0 < cS X 5 ∧ x5 = cS X 5 + -1 ∧ x10 = cS X 10 + 1) ∨ (¬ 0 < cS X 5 ∧ x5 = cS X 5 ∧ x10 = cS X 10)) ∧ m = 2 ∧ pc = 100 ∧ lc = laL r i a (iB (0 < cS X 5)) ∧ st = [] ∧ μ' = rW μ r (lauF7 (μ.1 (r + 1)) i b ens.length x5 x10) ∧ ce = 0 ∧ sl = 0) ∨
    (∃ x5 x10, ((0 < cS X 5 ∧ x5 = cS X 5 + -1 ∧ x10 = cS X 10 + 1) ∨ (¬ 0 < cS X 5 ∧ x5 = cS X 5 ∧ x10 = cS X 10)) ∧ m = 1 ∧ pc = 129 ∧ lc = laL r i a (iB (0 < cS X 5)) ∧ st = [] ∧ μ' = rW μ r (lauF9 (μ.1 (r + 1)) i a b ens.length x5 x10) ∧ ce = 0 ∧ sl = 0), ?_, ?_⟩
  · refine ⟨i, 7, rfl, rfl, by omega, i, 65, rfl, rfl, by omega, i, 8, rfl, rfl, by omega, _, nI_add _ 1, by omega, i, 9, rfl, rfl, by omega, _, nI_add _ 5, by omega, i, 15, rfl, rfl, by omega, i, 5, rfl, rfl, by omega, fun h1 => ?_, fun h1 => ?_⟩
    · simp only [ifP, rW_rW, rW_at] at h1
      simp (disch := omega) only [upd_ne, upd_eq] at h1
      rw [s5] at h1
      refine ⟨3, laL r i a (iB (0 < cS X 5)), ⟨rfl, rfl, rfl, ?_, trivial⟩, Or.inl ⟨rfl, rfl, rfl, rfl, ?_, rfl, rfl⟩⟩
      · rw [iB_0 (Int32.not_lt.mpr h1)]
        rfl
      · simp only [rW_rW, rW_at]
        unfold lauF5
        simp (disch := omega) only [upd_ne, upd_eq, hb, hn]
        rfl
    · simp only [ifP, rW_rW, rW_at] at h1
      simp (disch := omega) only [upd_ne, upd_eq] at h1
      rw [s5] at h1
      refine ⟨3, laL r i a (iB (0 < cS X 5)), ⟨rfl, rfl, rfl, ?_, trivial⟩, Or.inl ⟨rfl, rfl, rfl, rfl, ?_, rfl, rfl⟩⟩
      · rw [iB_1 (Int32.not_le.mp h1)]
        rfl
      · simp only [rW_rW, rW_at]
        unfold lauF5
        simp (disch := omega) only [upd_ne, upd_eq, hb, hn]
        rfl
  · rintro m pc lc st μ' ce sl (⟨rfl, rfl, rfl, rfl, rfl, rfl, rfl⟩ | ⟨x5, x10, hx, rfl, rfl, rfl, rfl, rfl, rfl, rfl⟩ | ⟨x5, x10, hx, rfl, rfl, rfl, rfl, rfl, rfl, rfl⟩)
    · refine ⟨fun h1 => ⟨i, 5, rfl, rfl, by omega, fun h2 => ⟨i, 10, rfl, rfl, by omega, 2, laL r i a (iB (0 < cS X 5)), by omega, ⟨rfl, rfl, rfl, rfl, trivial⟩, Or.inr (Or.inl ⟨cS X 5, cS X 10, Or.inr ⟨(iB_eq0 _).mp h1, rfl, rfl⟩, rfl, rfl, rfl, rfl, ?_, rfl, rfl⟩)⟩, fun h2 => absurd h1 h2⟩, fun h1 => ⟨i, 5, rfl, rfl, by omega, fun h2 => absurd h2 h1, fun h2 => ⟨i, 10, rfl, rfl, by omega, 2, laL r i a (iB (0 < cS X 5)), by omega, ⟨rfl, rfl, rfl, rfl, trivial⟩, Or.inr (Or.inl ⟨cS X 5 + -1, cS X 10 + 1, Or.inl ⟨(iB_ne0 _).mp h1, rfl, rfl⟩, rfl, rfl, rfl, rfl, ?_, rfl, rfl⟩)⟩⟩⟩
      · simp only [rW_rW, rW_at]
        rw [upd_ne _ _ (by omega), f5 _ (by omega), f5 _ (by omega), s5, s10]
        unfold lauF7
        have e : ∀ x : Int32, x + Int32.ofInt 0 = x := fun x => Int32.add_zero x
        rw [e, e]
      · simp only [rW_rW, rW_at]
        rw [upd_ne _ _ (by omega), f5 _ (by omega), f5 _ (by omega), s5, s10]
        rfl
    · refine ⟨i, 7, rfl, rfl, by omega, _, nI_add _ 0, by omega, 0, rfl, by omega, _, nI_add _ 2, by omega, 1, laL r i a (iB (0 < cS X 5)), by omega, ⟨rfl, rfl, rfl, rfl, trivial⟩, Or.inr (Or.inr ⟨x5, x10, hx, rfl, rfl, rfl, rfl, ?_, rfl, rfl⟩)⟩
      simp only [up2_stF, stF_stF, stF_at, rW_at, stF_rW]
      rw [upd_ne (k := 0) _ _ (by omega), f7 x5 x10 0 (by omega)]
      have e : lauF7 (μ.1 (r + 1)) i b ens.length x5 x10 (51 + 2406 * i + 7) = μ.1 (r + 1) (51 + 2406 * i + 7) + 1 := by
        unfold lauF7 lauF5
        simp (disch := omega) only [upd_ne, upd_eq]
      rw [e]
      rfl
    · have f9 : ∀ z, (z = 0 ∨ z = 1) → lauF9 (μ.1 (r + 1)) i a b ens.length x5 x10 z = μ.1 (r + 1) z := fun z hz => by
        unfold lauF9
        rw [upd_ne _ _ (by omega), upd_ne _ _ (by omega), f7 _ _ _ (by omega)]
      refine ⟨fun h1 => ⟨0, rfl, by omega, 1, rfl, by omega, _, nI_add _ 3, by omega, _, nI_add _ 4, by omega, ?_⟩, fun h1 => ⟨_, nI_add _ 3, by omega, _, nI_add _ 4, by omega, ?_⟩⟩
      · have g : ¬ 0 < cS X 5 := (iB_eq0 _).mp h1
        have := fin x5 x10 (μ.1 (r + 1) 0 + μ.1 (r + 1) 1) (Or.inr ⟨g, (hx.resolve_left fun q => g q.1).2.1, (hx.resolve_left fun q => g q.1).2.2, rfl⟩)
        rw [← f9 0 (Or.inl rfl), ← f9 1 (Or.inr rfl)] at this
        show K _ (up2 (up2 (rW μ r (lauF9 (μ.1 (r + 1)) i a b ens.length x5 x10)).1 (r + 1) (a + 3) ((rW μ r (lauF9 (μ.1 (r + 1)) i a b ens.length x5 x10)).1 (r + 1) 0 + (rW μ r (lauF9 (μ.1 (r + 1)) i a b ens.length x5 x10)).1 (r + 1) 1)) (r + 1) (a + 4) (Int32.ofInt 1), (rW μ r (lauF9 (μ.1 (r + 1)) i a b ens.length x5 x10)).2)
        simp only [up2_stF, stF_stF, stF_at, rW_at, stF_rW]
        exact this
      · have g : 0 < cS X 5 := (iB_ne0 _).mp h1
        have g2 : ¬ ¬ 0 < cS X 5 := fun q => q g
        have := fin x5 x10 0 (Or.inl ⟨g, (hx.resolve_right fun q => g2 q.1).2.1, (hx.resolve_right fun q => g2 q.1).2.2, rfl⟩)
        show K _ (up2 (up2 (rW μ r (lauF9 (μ.1 (r + 1)) i a b ens.length x5 x10)).1 (r + 1) (a + 3) (Int32.ofInt 0)) (r + 1) (a + 4) (Int32.ofInt 1), (rW μ r (lauF9 (μ.1 (r + 1)) i a b ens.length x5 x10)).2)
        simp only [up2_stF, stF_stF, stF_at, rW_at, stF_rW]
        exact this
end
section
/-! THE REFERENCE sweeps its packets. -/
theorem swp_S {l : List PK} {k : Nat} {p : PK} (h : l[k]? = some p) : swp (l.take (k + 1)) = swp (l.take k) ++ (if kpP p then [p] else []) := by
  have ht : l.take (k + 1) = l.take k ++ [p] := by rw [List.take_add_one, h]; rfl
  unfold swp
  rw [ht, List.filter_append]
  congr 1
  by_cases hp : kpP p
  · rw [if_pos hp]
    exact List.filter_cons_of_pos (decide_eq_true hp)
  · rw [if_neg hp]
    exact List.filter_cons_of_neg (by rw [decide_eq_false hp]; decide)
theorem swp_le (l : List PK) (k : Nat) : (swp (l.take k)).length ≤ k := Nat.le_trans (List.length_filter_le _ _) (by rw [List.length_take]; omega)
/-- a slot copied in part -/
def slF (g : Nat → Int32) (t s y : Nat) : Nat → Int32 := fun z => if t ≤ z ∧ z < t + y then g (z - t + s) else g z
theorem slF_S (g : Nat → Int32) {t s y : Nat} (hts : t ≤ s) (hy : y < 86) (h : t = s ∨ t + 86 ≤ s) : upd (slF g t s y) (t + y) (slF g t s y (s + y)) = slF g t s (y + 1) := by
  have e : slF g t s y (s + y) = g (s + y) := by
    unfold slF
    rw [if_neg (by omega)]
  rw [e]
  funext z
  by_cases hz : z = t + y
  · subst hz
    rw [upd_eq]
    unfold slF
    rw [if_pos (by omega)]
    congr 1
    omega
  · rw [upd_ne _ _ hz]
    unfold slF
    by_cases hz2 : t ≤ z ∧ z < t + y
    · rw [if_pos hz2, if_pos (by omega)]
    · rw [if_neg hz2, if_neg (by omega)]
theorem slF_RP {g : Nat → Int32} {t s : Nat} {p : PK} (h : RP g s p) : RP (slF g t s 86) t p := by
  obtain ⟨a1, a2, a3, a4⟩ := h
  have e : ∀ k, k < 86 → slF g t s 86 (t + k) = g (s + k) := fun k hk => by
    unfold slF
    rw [if_pos (by omega)]
    congr 1
    omega
  refine ⟨fun k hk => by rw [e _ (by omega)]; exact a1 k hk, by rw [e _ (by omega)]; exact a2, a3, fun j en hj k hk => ?_⟩
  have hj2 : j < p.2.length := (List.getElem?_eq_some_iff.mp hj).1
  have e2 : t + 6 + 5 * j + k = t + (6 + 5 * j + k) := by omega
  have e3 : s + 6 + 5 * j + k = s + (6 + 5 * j + k) := by omega
  rw [e2, e _ (by omega), ← e3]
  exact a4 j en hj k hk
/-- how far the sweep is -/
def SW (f g : Nat → Int32) (b k : Nat) (l : List PK) : Prop := (∀ z, (z < b + 66 ∨ b + 66 + 86 * k ≤ z) → g z = f z) ∧ ∀ (j : Nat) (p : PK), (swp (l.take k))[j]? = some p → RP g (b + (66 + 86 * j)) p
def swL (r i w k : Nat) : LC := [some (.inr (.inr (20, r))), some (.inl (nI i)), some (.inl (nI w)), some (.inl (nI k)), none, none, none]
def swM (r i w k s t y : Nat) : LC := [some (.inr (.inr (20, r))), some (.inl (nI i)), some (.inl (nI w)), some (.inl (nI k)), some (.inl (nI s)), some (.inl (nI t)), some (.inl (nI y))]
def sp_X10_sweep : SPc := fun As μ K => match As with
  | [.inr (.inr (20, r)), .inl c] => ∃ (i : Nat) (X : CS), c = nI i ∧ i < 3 ∧ RC (μ.1 (r + 1)) i X ∧ RU μ r i (setP X (swp (cP X))) (K (.inl none))
  | _ => False
def ct_X10_sweep : List (Nat × CI) := [(80, ci_X10_of), (125, ci_X10_packetCell), (77, ci_X10_cell)]
def ci_X10_sweep : CI := (yX10_sweep, cX10_sweep, 7, none, 2, (2, 0, 0, 43), 19, [], sp_X10_sweep)
set_option maxRecDepth 100000 in
theorem ck_X10_sweep : chkM ci_X10_sweep RX10 co_X10_sweep ct_X10_sweep [] false false = true := by decide +kernel
set_option maxHeartbeats 4000000 in
set_option maxRecDepth 100000 in
theorem ms_X10_sweep {g : GPT} {ot : OT} {l : Launch} (hl : l.stackTraces = false) : MS g ot l ci_X10_sweep := by
  refine ms_of hl RX10 co_X10_sweep ct_X10_sweep [] false false [4,59] 70 ck_X10_sweep (List.forall_mem_cons.mpr ⟨ms_X10_of hl, List.forall_mem_cons.mpr ⟨ms_X10_packetCell hl, List.forall_mem_cons.mpr ⟨ms_X10_cell hl, fun _ h => nomatch h⟩⟩⟩) ?_
  intro As μ K h
  simp only [ci_X10_sweep, sp_X10_sweep] at h
  split at h
  case h_2 => exact h.elim
  rename_i r c
  obtain ⟨i, X, rfl, hi, hX, h⟩ := h
  have hl := hX.2.2.1.1
  have hl2 := hX.2.2.1.2.1
  refine ⟨Nat.le_of_ble_eq_true rfl, fun m pc lc st μ' ce sl => (∃ k g, k ≤ (cP X).length ∧ m = 200 * ((cP X).length - k) ∧ pc = 4 ∧ lc = swL r i (swp ((cP X).take k)).length k ∧ st = [] ∧ μ' = rW μ r g ∧ SW (μ.1 (r + 1)) g (51 + 2406 * i) k (cP X) ∧ ce = 0 ∧ sl = 0) ∨
    (∃ k g p y, (cP X)[k]? = some p ∧ kpP p ∧ y ≤ 86 ∧ m = 200 * ((cP X).length - k) - 1 - y ∧ pc = 59 ∧ lc = swM r i (swp ((cP X).take k)).length k (51 + 2406 * i + (66 + 86 * k)) (51 + 2406 * i + (66 + 86 * (swp ((cP X).take k)).length)) y ∧ st = [] ∧ μ' = rW μ r (slF g (51 + 2406 * i + (66 + 86 * (swp ((cP X).take k)).length)) (51 + 2406 * i + (66 + 86 * k)) y) ∧ SW (μ.1 (r + 1)) g (51 + 2406 * i) k (cP X) ∧ ce = 0 ∧ sl = 0), ?_, ?_⟩
  · refine ⟨200 * ((cP X).length - 0), swL r i 0 0, ⟨rfl, rfl, rfl, rfl, trivial⟩, Or.inl ⟨0, μ.1 (r + 1), Nat.zero_le _, rfl, rfl, rfl, rfl, (rW_self μ r).symm, ⟨fun z _ => rfl, fun j p hp => ?_⟩, rfl, rfl⟩⟩
    exact absurd hp (by simp [swp])
  · rintro m pc lc st μ' ce sl (⟨k, g, hk, rfl, rfl, rfl, rfl, rfl, ⟨g1, g2⟩, rfl, rfl⟩ | ⟨k, g, p, y, hp, hkp, hy, rfl, rfl, rfl, rfl, rfl, ⟨g1, g2⟩, rfl, rfl⟩)
    · have hw := swp_le (cP X) k
      have c65 : (rW μ r g).1 (r + 1) (51 + 2406 * i + 65) = nI (cP X).length := by rw [rW_at, g1 _ (by omega)]; exact hl
      refine ⟨i, 65, rfl, rfl, by omega, fun h1 => ?_, fun h1 => ?_⟩
      · simp only [icP, c65] at h1
        rw [nI_le_iff (by omega) (by omega)] at h1
        obtain rfl : k = (cP X).length := by omega
        rw [List.take_length] at g2 hw
        refine ⟨i, 65, rfl, rfl, _, rfl, by omega, ?_⟩
        show K _ (up2 (rW μ r g).1 (r + 1) (51 + 2406 * i + 65) (nI (swp ((cP X).take (cP X).length)).length), (rW μ r g).2)
        simp only [up2_stF, stF_rW, rW_at]
        rw [List.take_length]
        obtain ⟨h1, h2, h3, h4, h5⟩ := hX
        refine h _ ⟨RS.keep h1 fun z z1 z2 => ?_, RA.keep h2 fun z z1 z2 => ?_, ⟨?_, ?_, fun j p hp => ?_⟩, RB.keep h4 fun z z1 z2 => ?_, RD.keep h5 fun z z1 z2 => ?_⟩ fun z hz => ?_
        · rw [upd_ne _ _ (by omega), g1 _ (by omega)]
        · rw [upd_ne _ _ (by omega), g1 _ (by omega)]
        · rw [upd_eq]
        · show (swp (cP X)).length ≤ 22
          omega
        · have hj : j < (swp (cP X)).length := (List.getElem?_eq_some_iff.mp hp).1
          exact (g2 j p hp).keep fun z z1 z2 => upd_ne _ _ (by omega)
        · rw [upd_ne _ _ (by omega), g1 _ (by omega)]
        · rw [upd_ne _ _ (by omega), g1 _ (by omega)]
        · rw [upd_ne _ _ (by omega), g1 _ (by omega)]
      · simp only [icP, c65] at h1
        rw [nI_le_iff (by omega) (by omega)] at h1
        obtain ⟨p, hp⟩ := at_of_lt (l := cP X) (k := k) (by omega)
        have hrp : RP g (51 + 2406 * i + (66 + 86 * k)) p := (hX.pk hp).keep fun z z1 z2 => g1 _ (by omega)
        have c4 : (rW μ r g).1 (r + 1) (51 + 2406 * i + (66 + 86 * k) + 4) = p.1 4 := by rw [rW_at]; exact hrp.1 4 (by omega)
        have c3 : (rW μ r g).1 (r + 1) (51 + 2406 * i + (66 + 86 * k) + 3) = p.1 3 := by rw [rW_at]; exact hrp.1 3 (by omega)
        have blk : kpP p → ∃ n' lc', n' < 200 * ((cP X).length - k) ∧ subL lc' (swM r i (swp ((cP X).take k)).length k (51 + 2406 * i + (66 + 86 * k)) (51 + 2406 * i + (66 + 86 * (swp ((cP X).take k)).length)) 0) ∧ (∃ k' g' p' y, (cP X)[k']? = some p' ∧ kpP p' ∧ y ≤ 86 ∧ n' = 200 * ((cP X).length - k') - 1 - y ∧ 59 = 59 ∧ lc' = swM r i (swp ((cP X).take k')).length k' (51 + 2406 * i + (66 + 86 * k')) (51 + 2406 * i + (66 + 86 * (swp ((cP X).take k')).length)) y ∧ ([] : List TV) = [] ∧ rW μ r g = rW μ r (slF g' (51 + 2406 * i + (66 + 86 * (swp ((cP X).take k')).length)) (51 + 2406 * i + (66 + 86 * k')) y) ∧ SW (μ.1 (r + 1)) g' (51 + 2406 * i) k' (cP X) ∧ 0 = 0 ∧ 0 = 0) := fun hkp => by
          refine ⟨200 * ((cP X).length - k) - 1 - 0, swM r i (swp ((cP X).take k)).length k (51 + 2406 * i + (66 + 86 * k)) (51 + 2406 * i + (66 + 86 * (swp ((cP X).take k)).length)) 0, by omega, ⟨rfl, rfl, rfl, rfl, rfl, rfl, rfl, trivial⟩, k, g, p, 0, hp, hkp, by omega, rfl, rfl, rfl, rfl, ?_, ⟨g1, g2⟩, rfl, rfl⟩
          congr 1
          funext z
          unfold slF
          rw [if_neg (by omega)]
        refine ⟨i, k, rfl, rfl, _, nI_add _ 4, by omega, fun h2 => ?_, fun h2 => ⟨_, nI_add _ 3, by omega, fun h3 => ?_, fun h3 => ?_⟩⟩
        · have h2 : (rW μ r g).1 (r + 1) (51 + 2406 * i + (66 + 86 * k) + 4) = 1 := h2
          rw [c4] at h2
          obtain ⟨n', lc', a1, a2, a3⟩ := blk (Or.inl h2)
          exact ⟨i, (swp ((cP X).take k)).length, rfl, rfl, n', lc', a1, a2, Or.inr a3⟩
        · have h2 : ¬ (rW μ r g).1 (r + 1) (51 + 2406 * i + (66 + 86 * k) + 4) = 1 := h2
          have h3 : (rW μ r g).1 (r + 1) (51 + 2406 * i + (66 + 86 * k) + 3) ≤ 0 := h3
          rw [c4] at h2
          rw [c3] at h3
          have hs := swp_S hp
          rw [if_neg (fun q => q.elim h2 (Int32.not_lt.mpr h3)), List.append_nil] at hs
          refine ⟨200 * ((cP X).length - (k + 1)), swL r i (swp ((cP X).take (k + 1))).length (k + 1), by omega, ⟨rfl, rfl, ?_, inc_tv k, trivial⟩, Or.inl ⟨k + 1, g, by omega, rfl, rfl, rfl, rfl, rfl, ⟨fun z hz => g1 z (by omega), ?_⟩, rfl, rfl⟩⟩
          · rw [hs]
          · rw [hs]; exact g2
        · have h3 : ¬ (rW μ r g).1 (r + 1) (51 + 2406 * i + (66 + 86 * k) + 3) ≤ 0 := h3
          rw [c3] at h3
          obtain ⟨n', lc', a1, a2, a3⟩ := blk (Or.inr (Int32.not_le.mp h3))
          exact ⟨i, (swp ((cP X).take k)).length, rfl, rfl, n', lc', a1, a2, Or.inr a3⟩
    · have hw := swp_le (cP X) k
      have hk : k < (cP X).length := (List.getElem?_eq_some_iff.mp hp).1
      refine ⟨fun h1 => ?_, fun h1 => ?_⟩
      · have h1 : nI 86 ≤ nI y := h1
        rw [nI_le_iff (by omega) (by omega)] at h1
        obtain rfl : y = 86 := by omega
        have hs := swp_S hp
        rw [if_pos hkp] at hs
        have hrp : RP g (51 + 2406 * i + (66 + 86 * k)) p := (hX.pk hp).keep fun z z1 z2 => g1 _ (by omega)
        refine ⟨200 * ((cP X).length - (k + 1)), swL r i (swp ((cP X).take (k + 1))).length (k + 1), by omega, ⟨rfl, rfl, ?_, inc_tv k, trivial⟩, Or.inl ⟨k + 1, _, by omega, rfl, rfl, rfl, rfl, rfl, ⟨fun z hz => ?_, fun j q hq => ?_⟩, rfl, rfl⟩⟩
        · rw [hs, List.length_append]
          exact inc_tv _
        · unfold slF
          rw [if_neg (by omega)]
          exact g1 z (by omega)
        · rw [hs] at hq
          by_cases hj : j < (swp ((cP X).take k)).length
          · rw [List.getElem?_append_left hj] at hq
            refine (g2 j q hq).keep fun z z1 z2 => ?_
            unfold slF
            rw [if_neg (by omega)]
          · have hj2 : j < (swp ((cP X).take k) ++ [p]).length := (List.getElem?_eq_some_iff.mp hq).1
            rw [List.length_append] at hj2
            have hj2 : j < (swp ((cP X).take k)).length + 1 := hj2
            obtain rfl : j = (swp ((cP X).take k)).length := by omega
            rw [List.getElem?_append_right (Nat.le_refl _), Nat.sub_self] at hq
            cases hq
            exact slF_RP hrp
      · have h1 : ¬ nI 86 ≤ nI y := h1
        rw [nI_le_iff (by omega) (by omega)] at h1
        refine ⟨_, nI_add _ y, by omega, _, nI_add _ y, by omega, 200 * ((cP X).length - k) - 1 - (y + 1), swM r i (swp ((cP X).take k)).length k (51 + 2406 * i + (66 + 86 * k)) (51 + 2406 * i + (66 + 86 * (swp ((cP X).take k)).length)) (y + 1), by omega, ⟨rfl, rfl, rfl, rfl, rfl, rfl, inc_tv y, trivial⟩, Or.inr ⟨k, g, p, y + 1, hp, hkp, by omega, rfl, rfl, rfl, rfl, ?_, ⟨g1, g2⟩, rfl, rfl⟩⟩
        simp only [up2_stF, stF_rW, rW_at]
        rw [slF_S g (by omega) (by omega) (by omega)]
end
section
/-! THE REFERENCE gives packets up. -/
theorem upd_upd (f : Nat → Int32) (k : Nat) (v w : Int32) : upd (upd f k v) k w = upd f k w := by
  funext z
  by_cases hz : z = k
  · subst hz
    rw [upd_eq, upd_eq]
  · rw [upd_ne _ _ hz, upd_ne _ _ hz, upd_ne _ _ hz]
theorem upd_self (f : Nat → Int32) (k : Nat) : upd f k (f k) = f := by
  funext z
  by_cases hz : z = k
  · subst hz
    rw [upd_eq]
  · rw [upd_ne _ _ hz]
/-- a list changed as far as k -/
def mapTo (g : PK → PK) (l : List PK) (k : Nat) : List PK := (l.take k).map g ++ l.drop k
theorem mapTo_0 (g : PK → PK) (l : List PK) : mapTo g l 0 = l := by simp [mapTo]
theorem mapTo_len (g : PK → PK) (l : List PK) (k : Nat) : (mapTo g l k).length = l.length := by
  unfold mapTo
  rw [List.length_append, List.length_map, List.length_take, List.length_drop]
  omega
theorem mapTo_all (g : PK → PK) (l : List PK) {k : Nat} (h : l.length ≤ k) : mapTo g l k = l.map g := by
  unfold mapTo
  rw [List.take_of_length_le h, List.drop_eq_nil_of_le h, List.append_nil]
theorem mapTo_get (g : PK → PK) (l : List PK) {k : Nat} (hk : k ≤ l.length) (j : Nat) : (mapTo g l k)[j]? = if j < k then (l[j]?).map g else l[j]? := by
  unfold mapTo
  have e : ((l.take k).map g).length = k := by rw [List.length_map, List.length_take]; omega
  by_cases hj : j < k
  · rw [if_pos hj, List.getElem?_append_left (by omega), List.getElem?_map, List.getElem?_take, if_pos hj]
  · rw [if_neg hj, List.getElem?_append_right (by omega), List.getElem?_drop, e]
    congr 1
    omega
theorem mapTo_at (g : PK → PK) {l : List PK} {k : Nat} {p : PK} (h : l[k]? = some p) : (mapTo g l k)[k]? = some p := by
  have hk : k < l.length := (List.getElem?_eq_some_iff.mp h).1
  rw [mapTo_get g l (by omega), if_neg (by omega)]
  exact h
theorem mapTo_S (g : PK → PK) {l : List PK} {k : Nat} {p : PK} (h : l[k]? = some p) : mapTo g l (k + 1) = (mapTo g l k).set k (g p) := by
  have hk : k < l.length := (List.getElem?_eq_some_iff.mp h).1
  apply List.ext_getElem?
  intro j
  rw [mapTo_get g l (by omega)]
  by_cases hj : j = k
  · subst hj
    rw [if_pos (by omega), List.getElem?_set_self (by rw [mapTo_len]; exact hk), h]
    rfl
  · rw [List.getElem?_set_ne (by omega), mapTo_get g l (by omega)]
    by_cases hj2 : j < k
    · rw [if_pos hj2, if_pos (by omega)]
    · rw [if_neg hj2, if_neg (by omega)]
theorem mapTo_id (g : PK → PK) {l : List PK} {k : Nat} {p : PK} (h : l[k]? = some p) (hg : g p = p) : mapTo g l (k + 1) = mapTo g l k := by
  rw [mapTo_S g h, hg]
  have hk : k < (mapTo g l k).length := by rw [mapTo_len]; exact (List.getElem?_eq_some_iff.mp h).1
  have e : (mapTo g l k)[k]? = some p := mapTo_at g h
  apply List.ext_getElem?
  intro j
  by_cases hj : j = k
  · subst hj
    rw [List.getElem?_set_self hk, e]
  · rw [List.getElem?_set_ne (by omega)]
theorem oldN_S {t lim : Int32} {l : List PK} {k : Nat} {p : PK} (h : l[k]? = some p) : oldN t lim (l.take (k + 1)) = oldN t lim (l.take k) + (if old t lim p then 1 else 0) := by
  have ht : l.take (k + 1) = l.take k ++ [p] := by rw [List.take_add_one, h]; rfl
  unfold oldN
  rw [ht, List.filter_append, List.length_append]
  congr 1
  by_cases hp : old t lim p
  · rw [if_pos hp]
    have e : ([p] : List PK).filter (fun p => decide (old t lim p)) = [p] := List.filter_cons_of_pos (decide_eq_true hp)
    rw [e]
    rfl
  · rw [if_neg hp]
    have e : ([p] : List PK).filter (fun p => decide (old t lim p)) = [] := List.filter_cons_of_neg (by rw [decide_eq_false hp]; decide)
    rw [e]
    rfl
def givK (t lim : Int32) (X : CS) (k : Nat) : CS := setP (setS X 14 (cS X 14 + nI (oldN t lim ((cP X).take k)))) (mapTo (zeroO t lim) (cP X) k)
def guL (r i k : Nat) : LC := [some (.inr (.inr (20, r))), some (.inl (nI i)), some (.inl (nI k)), none]
def sp_X10_giveUp : SPc := fun As μ K => match As with
  | [.inr (.inr (20, r)), .inl c] => ∃ (i : Nat) (X : CS), c = nI i ∧ i < 3 ∧ RC (μ.1 (r + 1)) i X ∧ RU μ r i (giv (μ.1 (r + 1) 0) (4 * μ.1 (r + 1) 1 + μ.1 (r + 1) 2) X) (K (.inl none))
  | _ => False
def ct_X10_giveUp : List (Nat × CI) := [(80, ci_X10_of), (125, ci_X10_packetCell), (115, ci_X10_add), (134, ci_X10_sweep)]
def ci_X10_giveUp : CI := (yX10_giveUp, cX10_giveUp, 4, none, 2, (3, 0, 0, 69), 19, [], sp_X10_giveUp)
set_option maxRecDepth 100000 in
theorem ck_X10_giveUp : chkM ci_X10_giveUp RX10 co_X10_giveUp ct_X10_giveUp [] false false = true := by decide +kernel
set_option maxHeartbeats 4000000 in
set_option maxRecDepth 100000 in
theorem ms_X10_giveUp {g : GPT} {ot : OT} {l : Launch} (hl : l.stackTraces = false) : MS g ot l ci_X10_giveUp := by
  refine ms_of hl RX10 co_X10_giveUp ct_X10_giveUp [] false false [2] 67 ck_X10_giveUp (List.forall_mem_cons.mpr ⟨ms_X10_of hl, List.forall_mem_cons.mpr ⟨ms_X10_packetCell hl, List.forall_mem_cons.mpr ⟨ms_X10_add hl, List.forall_mem_cons.mpr ⟨ms_X10_sweep hl, fun _ h => nomatch h⟩⟩⟩⟩) ?_
  intro As μ K h
  simp only [ci_X10_giveUp, sp_X10_giveUp] at h
  split at h
  case h_2 => exact h.elim
  rename_i r c
  obtain ⟨i, X, rfl, hi, hX, h⟩ := h
  have hl := hX.2.2.1.1
  have hl2 := hX.2.2.1.2.1
  generalize hlim : 4 * μ.1 (r + 1) 1 + μ.1 (r + 1) 2 = lim at h
  generalize ht : μ.1 (r + 1) 0 = t at h
  refine ⟨Nat.le_of_ble_eq_true rfl, fun m pc lc st μ' ce sl => ∃ k g, k ≤ (cP X).length ∧ m = (cP X).length - k ∧ pc = 2 ∧ lc = guL r i k ∧ st = [] ∧ μ' = rW μ r g ∧ RC g i (givK t lim X k) ∧ (∀ z, z < 51 + 2406 * i ∨ 51 + 2406 * i + 2406 ≤ z → g z = μ.1 (r + 1) z) ∧ ce = 0 ∧ sl = 0, ?_, ?_⟩
  · refine ⟨(cP X).length, guL r i 0, ⟨rfl, rfl, rfl, trivial⟩, 0, μ.1 (r + 1), Nat.zero_le _, rfl, rfl, rfl, rfl, (rW_self μ r).symm, ?_, fun z _ => rfl, rfl, rfl⟩
    have e : givK t lim X 0 = X := by
      unfold givK
      rw [mapTo_0]
      have e2 : cS X 14 + nI (oldN t lim ((cP X).take 0)) = cS X 14 := Int32.add_zero _
      rw [e2]
      show (upd X.1 14 (X.1 14), _) = X
      rw [upd_self]
    rw [e]
    exact hX
  · rintro m pc lc st μ' ce sl ⟨k, g, hk, rfl, rfl, rfl, rfl, rfl, hg, ho, rfl, rfl⟩
    have hgl : g (51 + 2406 * i + 65) = nI (cP X).length := by
      have := hg.2.2.1.1
      have e : (cP (givK t lim X k)).length = (cP X).length := mapTo_len _ _ _
      rw [e] at this
      exact this
    have c65 : (rW μ r g).1 (r + 1) (51 + 2406 * i + 65) = nI (cP X).length := by rw [rW_at]; exact hgl
    refine ⟨i, 65, rfl, rfl, by omega, fun h1 => ?_, fun h1 => ?_⟩
    · simp only [icP, c65] at h1
      rw [nI_le_iff (by omega) (by omega)] at h1
      refine ⟨i, givK t lim X k, rfl, hi, by rw [rW_at]; exact hg, fun f' hf hof => ?_⟩
      rw [rW_rW]
      refine h f' ?_ fun z hz => (hof z hz).trans (by rw [rW_at]; exact ho z hz)
      have e : setP (givK t lim X k) (swp (cP (givK t lim X k))) = giv t lim X := by
        unfold givK giv
        rw [mapTo_all _ _ h1, List.take_of_length_le h1]
      rw [← e]
      exact hf
    · simp only [icP, c65] at h1
      rw [nI_le_iff (by omega) (by omega)] at h1
      obtain ⟨p, hp⟩ := at_of_lt (l := cP X) (k := k) (by omega)
      have hp2 : (cP (givK t lim X k))[k]? = some p := mapTo_at _ hp
      have hrp := hg.pk hp2
      have c4 : (rW μ r g).1 (r + 1) (51 + 2406 * i + (66 + 86 * k) + 4) = p.1 4 := by rw [rW_at]; exact hrp.1 4 (by omega)
      have c2 : (rW μ r g).1 (r + 1) (51 + 2406 * i + (66 + 86 * k) + 2) = p.1 2 := by rw [rW_at]; exact hrp.1 2 (by omega)
      have g0 : (rW μ r g).1 (r + 1) 0 = t := by rw [rW_at, ho 0 (by omega)]; exact ht
      have g1 : (rW μ r g).1 (r + 1) 1 = μ.1 (r + 1) 1 := by rw [rW_at, ho 1 (by omega)]
      have g2 : (rW μ r g).1 (r + 1) 2 = μ.1 (r + 1) 2 := by rw [rW_at, ho 2 (by omega)]
      have no : ¬ old t lim p → givK t lim X (k + 1) = givK t lim X k := fun q => by
        unfold givK
        rw [oldN_S hp, if_neg q, mapTo_id _ hp (by unfold zeroO; rw [if_neg q])]
        rfl
      refine ⟨i, k, rfl, rfl, _, nI_add _ 4, by omega, fun h2 => ?_, fun h2 => ⟨0, rfl, by omega, _, nI_add _ 2, by omega, 1, rfl, by omega, 2, rfl, by omega, fun h3 => ?_, fun h3 => ⟨_, nI_add _ 4, by omega, i, 14, rfl, rfl, by omega, ?_⟩⟩⟩
      · have h2 : ¬ (rW μ r g).1 (r + 1) (51 + 2406 * i + (66 + 86 * k) + 4) = 1 := h2
        rw [c4] at h2
        exact ⟨(cP X).length - (k + 1), guL r i (k + 1), by omega, ⟨rfl, rfl, inc_tv k, trivial⟩, k + 1, g, by omega, rfl, rfl, rfl, rfl, rfl, by rw [no fun q => h2 q.1]; exact hg, ho, rfl, rfl⟩
      · have h3 : (rW μ r g).1 (r + 1) 0 - (rW μ r g).1 (r + 1) (51 + 2406 * i + (66 + 86 * k) + 2) < 4 * (rW μ r g).1 (r + 1) 1 + (rW μ r g).1 (r + 1) 2 := h3
        rw [g0, g1, g2, c2, hlim] at h3
        exact ⟨(cP X).length - (k + 1), guL r i (k + 1), by omega, ⟨rfl, rfl, inc_tv k, trivial⟩, k + 1, g, by omega, rfl, rfl, rfl, rfl, rfl, by rw [no fun q => Int32.not_le.mpr h3 q.2]; exact hg, ho, rfl, rfl⟩
      · have h2 : ¬ ¬ (rW μ r g).1 (r + 1) (51 + 2406 * i + (66 + 86 * k) + 4) = 1 := h2
        rw [c4, Classical.not_not] at h2
        have h3 : ¬ (rW μ r g).1 (r + 1) 0 - (rW μ r g).1 (r + 1) (51 + 2406 * i + (66 + 86 * k) + 2) < 4 * (rW μ r g).1 (r + 1) 1 + (rW μ r g).1 (r + 1) 2 := h3
        rw [g0, g1, g2, c2, hlim] at h3
        have hold : old t lim p := ⟨h2, Int32.not_lt.mp h3⟩
        have hg2 := (hg.PH hp2 (k := 4) (by omega) 0).S (k := 14) (by omega) (cS X 14 + nI (oldN t lim ((cP X).take (k + 1))))
        have e : setS (setP (givK t lim X k) ((cP (givK t lim X k)).set k (upd p.1 4 0, p.2))) 14 (cS X 14 + nI (oldN t lim ((cP X).take (k + 1)))) = givK t lim X (k + 1) := by
          unfold givK
          rw [mapTo_S _ hp]
          show (upd (upd X.1 14 _) 14 _, _, _, _) = (upd X.1 14 _, _, _, _)
          rw [upd_upd]
          have e3 : zeroO t lim p = (upd p.1 4 0, p.2) := if_pos hold
          rw [e3]
        rw [e] at hg2
        refine ⟨(cP X).length - (k + 1), guL r i (k + 1), by omega, ⟨rfl, rfl, inc_tv k, trivial⟩, k + 1, _, by omega, rfl, rfl, rfl, rfl, ?_, hg2, fun z hz => ?_, rfl, rfl⟩
        · simp only [up2_stF, stF_rW, stF_at, rW_rW, rW_at]
          rw [upd_ne (k := 51 + 2406 * i + 14) _ _ (by omega)]
          have e5 : g (51 + 2406 * i + 14) = cS X 14 + nI (oldN t lim ((cP X).take k)) := (hg.1 14 (by omega)).trans (show upd (cS X) 14 _ 14 = _ from upd_eq _ _ _)
          rw [e5, oldN_S hp, if_pos hold, nI_succ, Int32.add_assoc]
          rfl
        · rw [upd_ne _ _ (by omega), upd_ne _ _ (by omega)]
          exact ho z hz
end
section
/-! THE REFERENCE receives a packet. -/
def rOK (l : List (Int32 × Int32)) : Prop := l.Pairwise (fun p q => p.1 < q.1) ∧ ∀ q ∈ l, sOK q.2
theorem i_irr (a : Int32) : ¬ a < a := Int32.lt_irrefl
theorem rOK.ap {l : List (Int32 × Int32)} (h : rOK l) : apN l := fun i j p q hi hj he => by
  have hp := List.pairwise_iff_getElem.mp h.1
  obtain ⟨i1, i2⟩ := List.getElem?_eq_some_iff.mp hi
  obtain ⟨j1, j2⟩ := List.getElem?_eq_some_iff.mp hj
  by_cases c : i = j
  · exact c
  · exfalso
    by_cases d : i < j
    · have := hp i j i1 j1 d
      rw [i2, j2, he] at this
      exact i_irr _ this
    · have := hp j i j1 i1 (by omega)
      rw [i2, j2, he] at this
      exact i_irr _ this
theorem rOK.last {l : List (Int32 × Int32)} (h : rOK l) {q : Int32 × Int32} (hq : q ∈ l) : q.1 ≤ lastN l := by
  obtain ⟨i, hi⟩ := List.getElem?_of_mem hq
  obtain ⟨i1, i2⟩ := List.getElem?_eq_some_iff.mp hi
  obtain ⟨z, hz⟩ := at_of_lt (l := l) (k := l.length - 1) (by omega)
  rw [(last_at (by omega) hz).1]
  obtain ⟨z1, z2⟩ := List.getElem?_eq_some_iff.mp hz
  by_cases c : i = l.length - 1
  · subst c
    rw [i2] at z2
    rw [z2]
    exact Int32.le_refl _
  · have := List.pairwise_iff_getElem.mp h.1 i (l.length - 1) i1 z1 (by omega)
    rw [i2, z2] at this
    exact Int32.le_of_lt this
theorem rOK.add {l : List (Int32 × Int32)} (h : rOK l) {n s : Int32} (hn : lastN l < n) (hs : sOK s) : rOK (addRec l n s) := by
  have hd : rOK (if l.length = 12 then l.drop 1 else l) := by
    split
    · exact ⟨h.1.sublist (List.drop_sublist 1 l), fun q hq => h.2 q (List.mem_of_mem_drop hq)⟩
    · exact h
  have hm : ∀ q ∈ (if l.length = 12 then l.drop 1 else l), q ∈ l := fun q hq => by
    split at hq
    · exact List.mem_of_mem_drop hq
    · exact hq
  unfold addRec
  refine ⟨List.pairwise_append.mpr ⟨hd.1, List.pairwise_singleton _ _, fun p hp q hq => ?_⟩, fun q hq => ?_⟩
  · rw [List.mem_singleton.mp hq]
    exact Int32.lt_of_le_of_lt (h.last (hm p hp)) hn
  · rcases List.mem_append.mp hq with hq | hq
    · exact hd.2 q hq
    · rw [List.mem_singleton.mp hq]
      exact hs
theorem mxN_lt {a b m : Nat} (ha : a < 524288) (hb : b < 524288) : mxN a b m < 524288 := by
  have h0 : ∀ n, prt n 0 < 32 := fun n => by simp only [prt]; omega
  have h1 : ∀ n, prt n 1 < 32 := fun n => by simp only [prt]; omega
  have h2 : ∀ n, prt n 2 < 4 := fun n => by simp only [prt]; omega
  have h3 : ∀ n, n < 524288 → prt n 3 < 128 := fun n hn => by simp only [prt]; omega
  unfold mxN pkN
  have a0 := h0 (if m % 2 = 0 then a else b)
  have a1 := h1 (if m / 2 % 2 = 0 then a else b)
  have a2 := h2 (if m / 4 % 2 = 0 then a else b)
  have a3 := h3 (if m / 8 % 2 = 0 then a else b) (by split <;> assumption)
  omega
def RI (X : CS) : Prop := ∀ e, e < 16 → rOK (cR X e)
theorem up1_ne' {α : Type} (f : Nat → α) {a b : Nat} (v : α) (h : ¬ b = a) : up1 f a v b = f b := by unfold up1; rw [if_neg h]
theorem setR_RI {X : CS} (h : RI X) {e : Nat} {l : List (Int32 × Int32)} (hl : rOK l) : RI (setR X e l) := fun e' he' => by
  show rOK (up1 (cR X) e l e')
  by_cases c : e' = e
  · rw [c, up1_eq]; exact hl
  · rw [up1_ne' _ _ c]; exact h e' he'
theorem rcvE_RI {X : CS} (h : RI X) {en : EN} (hen : enOK en) (n : Int32) : RI (rcvE n X en) := by
  obtain ⟨o1, ⟨e, he, o2⟩, ⟨m, hm, o3⟩, o4, o5⟩ := hen
  have e0 := eN_of o2 he
  unfold rcvE
  rw [e0]
  split
  · exact h
  · next h1 =>
    have h1 := Int32.not_le.mp h1
    split
    · next h2 =>
      split
      · exact h
      · next h3 =>
        obtain ⟨b1, b2, b3, b4⟩ := sOK_ne (recS_ok (h e he).2 (en 2)) h3
        obtain ⟨c1, c2, c3⟩ := o5 (by rw [h2]; decide)
        refine setR_RI h ((h e he).add h1 (Or.inr ⟨_, mxN_lt ?_ ?_, rfl⟩))
        · rw [b4]; exact b2
        · rw [c3, sN_nI c2]; exact c2
    · refine setR_RI h ((h e he).add h1 ?_)
      by_cases q : en 0 = 0
      · exact Or.inl (o4 q)
      · exact Or.inr (o5 q)
theorem rcvE_A (n : Int32) (X : CS) (en : EN) : cA (rcvE n X en) = cA X := by
  unfold rcvE
  split
  · rfl
  · split
    · split <;> rfl
    · rfl
theorem rcvE_P (n : Int32) (X : CS) (en : EN) : cP (rcvE n X en) = cP X := by
  unfold rcvE
  split
  · rfl
  · split
    · split <;> rfl
    · rfl
def rcvL (n : Int32) (l : List EN) (X : CS) : CS := l.foldl (rcvE n) X
theorem rcvL_A (n : Int32) : ∀ (l : List EN) (X : CS), cA (rcvL n l X) = cA X
  | [], _ => rfl
  | en :: l, X => (rcvL_A n l (rcvE n X en)).trans (rcvE_A n X en)
theorem rcvL_P (n : Int32) : ∀ (l : List EN) (X : CS), cP (rcvL n l X) = cP X
  | [], _ => rfl
  | en :: l, X => (rcvL_P n l (rcvE n X en)).trans (rcvE_P n X en)
theorem rcvL_RI (n : Int32) : ∀ (l : List EN) (X : CS), RI X → (∀ en ∈ l, enOK en) → RI (rcvL n l X)
  | [], _, h, _ => h
  | en :: l, X, h, g => rcvL_RI n l (rcvE n X en) (rcvE_RI h (g en List.mem_cons_self) n) fun e he => g e (List.mem_cons_of_mem _ he)
theorem rcvL_S (n : Int32) {l : List EN} {k : Nat} {en : EN} (h : l[k]? = some en) (X : CS) : rcvL n (l.take (k + 1)) X = rcvE n (rcvL n (l.take k) X) en := by
  have ht : l.take (k + 1) = l.take k ++ [en] := by rw [List.take_add_one, h]; rfl
  unfold rcvL
  rw [ht, List.foldl_append]
  rfl
theorem RC.A {f : Nat → Int32} {c : Nat} {X : CS} (h : RC f c X) (hl : (cA X).length ≤ 23) (n v : Int32) : RC (upd (upd (upd f (51 + 2406 * c + (17 + 2 * (cA X).length)) n) (51 + 2406 * c + (17 + 2 * (cA X).length) + 1) v) (51 + 2406 * c + 16) (nI ((cA X).length + 1))) c (setA X (cA X ++ [(n, v)])) := by
  obtain ⟨h1, h2, h3, h4, h5⟩ := h
  have kp : ∀ z, (z < 51 + 2406 * c + 16 ∨ (51 + 2406 * c + 16 < z ∧ z < 51 + 2406 * c + (17 + 2 * (cA X).length)) ∨ 51 + 2406 * c + 65 ≤ z) → upd (upd (upd f (51 + 2406 * c + (17 + 2 * (cA X).length)) n) (51 + 2406 * c + (17 + 2 * (cA X).length) + 1) v) (51 + 2406 * c + 16) (nI ((cA X).length + 1)) z = f z := fun z hz => by
    rw [upd_ne _ _ (by omega), upd_ne _ _ (by omega), upd_ne _ _ (by omega)]
  refine ⟨RS.keep h1 fun z z1 z2 => kp z (by omega), ⟨?_, ?_, fun j q hq => ?_⟩, RPL.keep h3 fun z z1 z2 => kp z (by omega), RB.keep h4 fun z z1 z2 => kp z (by omega), RD.keep h5 fun z z1 z2 => kp z (by omega)⟩
  · rw [upd_eq]
    show _ = nI (cA X ++ [(n, v)]).length
    rw [List.length_append]
    rfl
  · show (cA X ++ [(n, v)]).length ≤ 24
    rw [List.length_append]
    show (cA X).length + 1 ≤ 24
    omega
  · have hq : (cA X ++ [(n, v)])[j]? = some q := hq
    by_cases hj : j < (cA X).length
    · rw [List.getElem?_append_left hj] at hq
      rw [kp _ (by omega), kp _ (by omega)]
      exact h2.2.2 j q hq
    · have hj2 : j < (cA X ++ [(n, v)]).length := (List.getElem?_eq_some_iff.mp hq).1
      rw [List.length_append] at hj2
      have hj2 : j < (cA X).length + 1 := hj2
      obtain rfl : j = (cA X).length := by omega
      rw [List.getElem?_append_right (Nat.le_refl _), Nat.sub_self] at hq
      cases hq
      refine ⟨?_, ?_⟩
      · rw [upd_ne _ _ (by omega), upd_ne _ _ (by omega), upd_eq]
      · rw [upd_ne _ _ (by omega), upd_eq]
def rvL (r i a k : Nat) : LC := [some (.inr (.inr (20, r))), some (.inl (nI i)), none, some (.inl (nI a)), some (.inl (nI k))]
def sp_X10_receive : SPc := fun As μ K => match As with
  | [.inr (.inr (20, r)), .inl c, .inl k'] => ∃ (i k : Nat) (X : CS) (p : PK), c = nI i ∧ k' = nI k ∧ i < 3 ∧ RC (μ.1 (r + 1)) i X ∧ (cP X)[k]? = some p ∧ (∀ en ∈ p.2, enOK en) ∧ RI X ∧ (cA X).length ≤ 23 ∧ RU μ r i (setP (rcvP (μ.1 (r + 1) 0) (μ.1 (r + 1) 1) p X) ((cP X).set k (upd p.1 3 0, p.2))) (K (.inl none))
  | _ => False
def ct_X10_receive : List (Nat × CI) := [(125, ci_X10_packetCell), (128, ci_X10_receiveEntry), (80, ci_X10_of), (115, ci_X10_add), (77, ci_X10_cell)]
def ci_X10_receive : CI := (yX10_receive, cX10_receive, 5, none, 3, (4, 0, 0, 94), 19, [], sp_X10_receive)
set_option maxRecDepth 100000 in
theorem ck_X10_receive : chkM ci_X10_receive RX10 co_X10_receive ct_X10_receive [] false false = true := by decide +kernel
set_option maxHeartbeats 4000000 in
set_option maxRecDepth 100000 in
theorem ms_X10_receive {g : GPT} {ot : OT} {l : Launch} (hl : l.stackTraces = false) : MS g ot l ci_X10_receive := by
  refine ms_of hl RX10 co_X10_receive ct_X10_receive [] false false [10] 103 ck_X10_receive (List.forall_mem_cons.mpr ⟨ms_X10_packetCell hl, List.forall_mem_cons.mpr ⟨ms_X10_receiveEntry hl, List.forall_mem_cons.mpr ⟨ms_X10_of hl, List.forall_mem_cons.mpr ⟨ms_X10_add hl, List.forall_mem_cons.mpr ⟨ms_X10_cell hl, fun _ h => nomatch h⟩⟩⟩⟩⟩) ?_
  intro As μ K h
  simp only [ci_X10_receive, sp_X10_receive] at h
  split at h
  case h_2 => exact h.elim
  rename_i r c k'
  obtain ⟨i, k, X, p, rfl, rfl, hi, hX, hp, hen, hI, hA, h⟩ := h
  have hk : k < (cP X).length := (List.getElem?_eq_some_iff.mp hp).1
  have hl2 := hX.2.2.1.2.1
  have hlen := (hX.pk hp).2.2.1
  generalize ha : 51 + 2406 * i + (66 + 86 * k) = a at *
  refine ⟨Nat.le_of_ble_eq_true rfl, fun m pc lc st μ' ce sl => ∃ z g, z ≤ p.2.length ∧ m = p.2.length - z ∧ pc = 10 ∧ lc = rvL r i a z ∧ st = [] ∧ μ' = rW μ r g ∧ RC g i (rcvL (p.1 0) (p.2.take z) X) ∧ (∀ z, z < 51 + 2406 * i ∨ 51 + 2406 * i + 2406 ≤ z → g z = μ.1 (r + 1) z) ∧ ce = 0 ∧ sl = 0, ?_, ?_⟩
  · exact ⟨i, k, rfl, rfl, p.2.length, rvL r i a 0, ⟨rfl, rfl, by rw [ha], rfl, trivial⟩, 0, μ.1 (r + 1), Nat.zero_le _, rfl, rfl, rfl, rfl, (rW_self μ r).symm, hX, fun z _ => rfl, rfl, rfl⟩
  · rintro m pc lc st μ' ce sl ⟨z, g, hz, rfl, rfl, rfl, rfl, rfl, hg, ho, rfl, rfl⟩
    have hpg : (cP (rcvL (p.1 0) (p.2.take z) X))[k]? = some p := by rw [rcvL_P]; exact hp
    have hrp : RP g a p := by rw [← ha]; exact hg.pk hpg
    have r5 : (rW μ r g).1 (r + 1) (a + 5) = nI p.2.length := by rw [rW_at]; exact hrp.2.1
    have r0 : (rW μ r g).1 (r + 1) (a + 0) = p.1 0 := by rw [rW_at]; exact hrp.1 0 (by omega)
    refine ⟨_, nI_add _ 5, by omega, fun h1 => ?_, fun h1 => ?_⟩
    · simp only [icP, r5] at h1
      rw [nI_le_iff (by omega) (by omega)] at h1
      rw [List.take_of_length_le h1] at hg
      have hg3 := hg.PH (by rw [rcvL_P]; exact hp) (k := 3) (by omega) 0
      rw [ha, rcvL_P] at hg3
      have m3 : (up2 (rW μ r g).1 (r + 1) (a + 3) 0, (rW μ r g).2) = rW μ r (upd g (a + 3) 0) := by rw [up2_rW, rW_rW, rW_at]
      have ho3 : ∀ z, z < 51 + 2406 * i ∨ 51 + 2406 * i + 2406 ≤ z → upd g (a + 3) 0 z = μ.1 (r + 1) z := fun z hz => by rw [upd_ne _ _ (by omega)]; exact ho z hz
      generalize hg0 : upd g (a + 3) 0 = g3 at hg3 m3 ho3
      have s6 : g3 (51 + 2406 * i + 6) = cS (rcvL (p.1 0) p.2 X) 6 := hg3.1 6 (by omega)
      have s11 : g3 (51 + 2406 * i + 11) = cS (rcvL (p.1 0) p.2 X) 11 := hg3.1 11 (by omega)
      have s16 : g3 (51 + 2406 * i + 16) = nI (cA X).length := by
        have := hg3.2.1.1
        have e : cA (setP (rcvL (p.1 0) p.2 X) ((cP X).set k (upd p.1 3 0, p.2))) = cA X := rcvL_A _ _ _
        rw [e] at this
        exact this
      have n3 : g3 (a + 0) = p.1 0 := by rw [← hg0, upd_ne _ _ (by omega)]; exact hrp.1 0 (by omega)
      refine ⟨_, nI_add _ 3, by omega, ?_⟩
      have fin : ∀ F, RC F i (setP (rcvP (μ.1 (r + 1) 0) (μ.1 (r + 1) 1) p X) ((cP X).set k (upd p.1 3 0, p.2))) → (∀ z, z < 51 + 2406 * i ∨ 51 + 2406 * i + 2406 ≤ z → F z = μ.1 (r + 1) z) → K (.inl none) (rW μ r F) := h
      refine ⟨i, 6, rfl, rfl, by omega, fun h2 => ?_, fun h2 => ?_⟩
      · have h2 : (up2 (rW μ r g).1 (r + 1) (a + 3) 0, (rW μ r g).2).1 (r + 1) (51 + 2406 * i + 6) ≤ 0 := h2
        rw [m3, rW_at, s6] at h2
        have q16 : (up2 (rW μ r g).1 (r + 1) (a + 3) 0, (rW μ r g).2).1 (r + 1) (51 + 2406 * i + 16) = nI (cA X).length := by rw [m3, rW_at, s16]
        refine ⟨i, 16, rfl, rfl, by omega, i, 17 + 2 * (cA X).length, rfl, ?_, _, nI_add _ 0, by omega, 51 + 2406 * i + (17 + 2 * (cA X).length), rfl, by omega, 0, rfl, by omega, 1, rfl, by omega, _, nI_add _ 1, by omega, i, 16, rfl, rfl, by omega, ?_⟩
        · show nI 17 + nI 2 * (up2 (rW μ r g).1 (r + 1) (a + 3) 0, (rW μ r g).2).1 (r + 1) (51 + 2406 * i + 16) = _
          rw [q16, nI_mul, nI_add]
        · have hR := hg3.A (by show (cA (rcvL (p.1 0) p.2 X)).length ≤ 23; rw [rcvL_A]; exact hA) (p.1 0) (μ.1 (r + 1) 0 + μ.1 (r + 1) 1)
          have eA : cA (setP (rcvL (p.1 0) p.2 X) ((cP X).set k (upd p.1 3 0, p.2))) = cA X := rcvL_A _ _ _
          rw [eA] at hR
          have eX : setA (setP (rcvL (p.1 0) p.2 X) ((cP X).set k (upd p.1 3 0, p.2))) (cA X ++ [(p.1 0, μ.1 (r + 1) 0 + μ.1 (r + 1) 1)]) = setP (rcvP (μ.1 (r + 1) 0) (μ.1 (r + 1) 1) p X) ((cP X).set k (upd p.1 3 0, p.2)) := by
            have e2 : rcvP (μ.1 (r + 1) 0) (μ.1 (r + 1) 1) p X = setA (rcvL (p.1 0) p.2 X) (cA (rcvL (p.1 0) p.2 X) ++ [(p.1 0, μ.1 (r + 1) 0 + μ.1 (r + 1) 1)]) := if_neg (Int32.not_lt.mpr h2)
            rw [e2, rcvL_A]
          rw [eX] at hR
          have := fin _ hR fun z hz => by
            rw [upd_ne _ _ (by omega), upd_ne _ _ (by omega), upd_ne _ _ (by omega)]
            exact ho3 z hz
          have o0 : g3 0 = μ.1 (r + 1) 0 := ho3 0 (by omega)
          have o1 : g3 1 = μ.1 (r + 1) 1 := ho3 1 (by omega)
          show K _ _
          simp only [iL0]
          simp only [up2_stF, stF_rW, stF_stF, stF_at, rW_rW, rW_at]
          rw [hg0]
          simp (disch := omega) only [upd_ne, upd_eq]
          rw [n3, o0, o1, s16]
          have e9 : nI (cA X).length + Int32.ofInt 1 = nI ((cA X).length + 1) := nI_add _ 1
          rw [e9]
          exact this
      · have h2 : ¬ (up2 (rW μ r g).1 (r + 1) (a + 3) 0, (rW μ r g).2).1 (r + 1) (51 + 2406 * i + 6) ≤ 0 := h2
        rw [m3, rW_at, s6] at h2
        refine ⟨i, 6, rfl, rfl, by omega, i, 11, rfl, rfl, by omega, ?_⟩
        have hR := (hg3.S (k := 6) (by omega) (cS (rcvL (p.1 0) p.2 X) 6 + -1)).S (k := 11) (by omega) (cS (rcvL (p.1 0) p.2 X) 11 + 1)
        have eX : setS (setS (setP (rcvL (p.1 0) p.2 X) ((cP X).set k (upd p.1 3 0, p.2))) 6 (cS (rcvL (p.1 0) p.2 X) 6 + -1)) 11 (cS (rcvL (p.1 0) p.2 X) 11 + 1) = setP (rcvP (μ.1 (r + 1) 0) (μ.1 (r + 1) 1) p X) ((cP X).set k (upd p.1 3 0, p.2)) := by
          have e2 : rcvP (μ.1 (r + 1) 0) (μ.1 (r + 1) 1) p X = setS (setS (rcvL (p.1 0) p.2 X) 6 (cS (rcvL (p.1 0) p.2 X) 6 + -1)) 11 (cS (rcvL (p.1 0) p.2 X) 11 + 1) := if_pos (Int32.not_le.mp h2)
          rw [e2]
        rw [eX] at hR
        have := fin _ hR fun z hz => by
          rw [upd_ne _ _ (by omega), upd_ne _ _ (by omega)]
          exact ho3 z hz
        show K _ _
        simp only [iL0]
        simp only [up2_stF, stF_rW, stF_stF, stF_at, rW_rW, rW_at]
        rw [hg0]
        simp (disch := omega) only [upd_ne, upd_eq]
        rw [s6, s11]
        exact this
    · simp only [icP, r5] at h1
      rw [nI_le_iff (by omega) (by omega)] at h1
      obtain ⟨en, hz2⟩ := at_of_lt (l := p.2) (k := z) (by omega)
      have hIz : RI (rcvL (p.1 0) (p.2.take z) X) := rcvL_RI _ _ _ hI fun en he => hen en (List.mem_of_mem_take he)
      have hok := hen en (List.mem_of_getElem? hz2)
      obtain ⟨e, he, he2⟩ := hok.2.1
      have e0 := eN_of he2 he
      refine ⟨_, nI_add _ 0, by omega, i, a + 6 + 5 * z, rcvL (p.1 0) (p.2.take z) X, en, rfl, ?_, hi, ?_, ?_, by omega, hok, ?_, ?_, fun f' hf hof => ⟨p.2.length - (z + 1), rvL r i a (z + 1), by omega, ⟨rfl, rfl, rfl, inc_tv z, trivial⟩, z + 1, f', by omega, rfl, rfl, rfl, rfl, ?_, ?_, fun y hy => ?_, rfl, rfl⟩⟩
      · show nI a + nI 6 + nI 5 * nI z = _
        rw [nI_mul, nI_add, nI_add]
      · rw [rW_at]; exact hg
      · intro y hy
        rw [rW_at]
        exact hrp.2.2.2 z en hz2 y hy
      · rw [e0]; exact (hIz e he).ap
      · rw [e0]; exact (hIz e he).2
      · rw [rW_rW]
      · rw [rcvL_S _ hz2]
        rw [r0] at hf
        exact hf
      · exact (hof y hy).trans (by rw [rW_at]; exact ho y hy)
end
section
/-! THE REFERENCE receives an acknowledgement. -/
theorem setl_P (n : Int32) (X : CS) (en : EN) : cP (setl n X en) = cP X := by
  unfold setl
  split <;> rfl
def setL' (n : Int32) (l : List EN) (X : CS) : CS := l.foldl (setl n) X
theorem setL_P (n : Int32) : ∀ (l : List EN) (X : CS), cP (setL' n l X) = cP X
  | [], _ => rfl
  | en :: l, X => (setL_P n l (setl n X en)).trans (setl_P n X en)
theorem setL_S (n : Int32) {l : List EN} {k : Nat} {en : EN} (h : l[k]? = some en) (X : CS) : setL' n (l.take (k + 1)) X = setl n (setL' n (l.take k) X) en := by
  have ht : l.take (k + 1) = l.take k ++ [en] := by rw [List.take_add_one, h]; rfl
  unfold setL'
  rw [ht, List.foldl_append]
  rfl
theorem ackF_P (n : Int32) : ∀ (l : List PK) (X : CS), cP (ackF n l X) = cP X
  | [], _ => rfl
  | p :: l, X => by
    show cP (ackF n l (if hit n p then setL' n p.2 X else X)) = cP X
    rw [ackF_P n l]
    split
    · exact setL_P n p.2 X
    · rfl
theorem ackF_S (n : Int32) {l : List PK} {k : Nat} {p : PK} (h : l[k]? = some p) (X : CS) : ackF n (l.take (k + 1)) X = if hit n p then setL' n p.2 (ackF n (l.take k) X) else ackF n (l.take k) X := by
  have ht : l.take (k + 1) = l.take k ++ [p] := by rw [List.take_add_one, h]; rfl
  unfold ackF
  rw [ht, List.foldl_append]
  rfl
theorem anyH_S (n : Int32) {l : List PK} {k : Nat} {p : PK} (h : l[k]? = some p) : anyH n (l.take (k + 1)) = (anyH n (l.take k) || decide (hit n p)) := by
  have ht : l.take (k + 1) = l.take k ++ [p] := by rw [List.take_add_one, h]; rfl
  unfold anyH
  rw [ht, List.any_append]
  simp
theorem setP_self {Y : CS} {l : List PK} (h : cP Y = l) : setP Y l = Y := by subst h; rfl
def bI (b : Bool) : Int32 := if b = true then 1 else 0
def akL (r i k : Nat) (n x : Int32) : LC := [some (.inr (.inr (20, r))), some (.inl (nI i)), some (.inl n), some (.inl x), some (.inl (nI k)), none, none]
def akM (r i k a z : Nat) (n : Int32) : LC := [some (.inr (.inr (20, r))), some (.inl (nI i)), some (.inl n), some (.inl 1), some (.inl (nI k)), some (.inl (nI a)), some (.inl (nI z))]
def ackZ (n : Int32) (X : CS) (k : Nat) : CS := setP (ackF n (cP X) (setS X 12 (cS X 12 + 1))) (mapTo (zeroF n) (cP X) k)
def sp_X10_acknowledge : SPc := fun As μ K => match As with
  | [.inr (.inr (20, r)), .inl c, .inl n] => ∃ (i : Nat) (X : CS), c = nI i ∧ i < 3 ∧ RC (μ.1 (r + 1)) i X ∧ (∀ p ∈ cP X, ∀ en ∈ p.2, enOK en) ∧ RU μ r i (ackN n X) (K (.inl none))
  | _ => False
def ct_X10_acknowledge : List (Nat × CI) := [(115, ci_X10_add), (80, ci_X10_of), (125, ci_X10_packetCell), (131, ci_X10_settle), (134, ci_X10_sweep)]
def ci_X10_acknowledge : CI := (yX10_acknowledge, cX10_acknowledge, 7, none, 3, (3, 0, 0, 69), 19, [], sp_X10_acknowledge)
set_option maxRecDepth 100000 in
theorem ck_X10_acknowledge : chkM ci_X10_acknowledge RX10 co_X10_acknowledge ct_X10_acknowledge [] false false = true := by decide +kernel
set_option maxHeartbeats 4000000 in
set_option maxRecDepth 100000 in
theorem ms_X10_acknowledge {g : GPT} {ot : OT} {l : Launch} (hl : l.stackTraces = false) : MS g ot l ci_X10_acknowledge := by
  refine ms_of hl RX10 co_X10_acknowledge ct_X10_acknowledge [] false false [13,65,110] 111 ck_X10_acknowledge (List.forall_mem_cons.mpr ⟨ms_X10_add hl, List.forall_mem_cons.mpr ⟨ms_X10_of hl, List.forall_mem_cons.mpr ⟨ms_X10_packetCell hl, List.forall_mem_cons.mpr ⟨ms_X10_settle hl, List.forall_mem_cons.mpr ⟨ms_X10_sweep hl, fun _ h => nomatch h⟩⟩⟩⟩⟩) ?_
  intro As μ K h
  simp only [ci_X10_acknowledge, sp_X10_acknowledge] at h
  split at h
  case h_2 => exact h.elim
  rename_i r c n
  obtain ⟨i, X, rfl, hi, hX, hen, h⟩ := h
  have hl2 := hX.2.2.1.2.1
  generalize hX0 : setS X 12 (cS X 12 + 1) = X0 at h
  have hP0 : cP X0 = cP X := by rw [← hX0]
  have len : ∀ {g Y}, RC g i Y → (cP Y).length = (cP X).length → (rW μ r g).1 (r + 1) (51 + 2406 * i + 65) = nI (cP X).length := fun hg e => by rw [rW_at, ← e]; exact hg.2.2.1.1
  refine ⟨Nat.le_of_ble_eq_true rfl, fun m pc lc st μ' ce sl => (∃ k g, k ≤ (cP X).length ∧ m = 100 * ((cP X).length - k) + 50 ∧ pc = 13 ∧ lc = akL r i k n (bI (anyH n ((cP X).take k))) ∧ st = [] ∧ μ' = rW μ r g ∧ RC g i (ackF n ((cP X).take k) X0) ∧ (∀ z, z < 51 + 2406 * i ∨ 51 + 2406 * i + 2406 ≤ z → g z = μ.1 (r + 1) z) ∧ ce = 0 ∧ sl = 0) ∨
    (∃ k g p z, (cP X)[k]? = some p ∧ hit n p ∧ z ≤ p.2.length ∧ m = 100 * ((cP X).length - k) + 50 - 1 - z ∧ pc = 65 ∧ lc = akM r i k (51 + 2406 * i + (66 + 86 * k)) z n ∧ st = [] ∧ μ' = rW μ r g ∧ RC g i (setL' n (p.2.take z) (ackF n ((cP X).take k) X0)) ∧ (∀ z, z < 51 + 2406 * i ∨ 51 + 2406 * i + 2406 ≤ z → g z = μ.1 (r + 1) z) ∧ ce = 0 ∧ sl = 0) ∨
    (∃ k g, k ≤ (cP X).length ∧ (k = 0 ∨ anyH n (cP X) = true) ∧ m = (cP X).length - k ∧ pc = 110 ∧ lc = akL r i k n (bI (anyH n (cP X))) ∧ st = [] ∧ μ' = rW μ r g ∧ RC g i (setP (ackF n (cP X) X0) (mapTo (zeroF n) (cP X) k)) ∧ (∀ z, z < 51 + 2406 * i ∨ 51 + 2406 * i + 2406 ≤ z → g z = μ.1 (r + 1) z) ∧ ce = 0 ∧ sl = 0), ?_, ?_⟩
  · refine ⟨i, 12, rfl, rfl, by omega, 100 * ((cP X).length - 0) + 50, akL r i 0 n 0, ⟨rfl, rfl, rfl, rfl, rfl, trivial⟩, Or.inl ⟨0, _, Nat.zero_le _, rfl, rfl, rfl, rfl, rfl, ?_, fun z hz => upd_ne _ _ (by omega), rfl, rfl⟩⟩
    have := hX.S (k := 12) (by omega) (cS X 12 + 1)
    rw [hX0] at this
    have e : μ.1 (r + 1) (51 + 2406 * i + 12) = cS X 12 := hX.1 12 (by omega)
    rw [← e] at this
    exact this
  · rintro m pc lc st μ' ce sl (⟨k, g, hk, rfl, rfl, rfl, rfl, rfl, hg, ho, rfl, rfl⟩ | ⟨k, g, p, z, hp, hh, hz, rfl, rfl, rfl, rfl, rfl, hg, ho, rfl, rfl⟩ | ⟨k, g, hk, hka, rfl, rfl, rfl, rfl, rfl, hg, ho, rfl, rfl⟩)
    · have hPk : cP (ackF n ((cP X).take k) X0) = cP X := by rw [ackF_P, hP0]
      have c65 := len hg (by rw [hPk])
      refine ⟨i, 65, rfl, rfl, by omega, fun h1 => ?_, fun h1 => ?_⟩
      · simp only [icP, c65] at h1
        rw [nI_le_iff (by omega) (by omega)] at h1
        rw [List.take_of_length_le h1] at hg ⊢
        refine ⟨(cP X).length - 0, akL r i 0 n (bI (anyH n (cP X))), by omega, ⟨rfl, rfl, rfl, rfl, rfl, trivial⟩, Or.inr (Or.inr ⟨0, g, Nat.zero_le _, Or.inl rfl, rfl, rfl, rfl, rfl, rfl, ?_, ho, rfl, rfl⟩)⟩
        rw [mapTo_0]
        rw [setP_self (by rw [ackF_P, hP0])]
        exact hg
      · simp only [icP, c65] at h1
        rw [nI_le_iff (by omega) (by omega)] at h1
        obtain ⟨p, hp⟩ := at_of_lt (l := cP X) (k := k) (by omega)
        have hrp := hg.pk (by rw [hPk]; exact hp)
        have c0 : (rW μ r g).1 (r + 1) (51 + 2406 * i + (66 + 86 * k) + 0) = p.1 0 := by rw [rW_at]; exact hrp.1 0 (by omega)
        have c4 : (rW μ r g).1 (r + 1) (51 + 2406 * i + (66 + 86 * k) + 4) = p.1 4 := by rw [rW_at]; exact hrp.1 4 (by omega)
        have nx : ¬ hit n p → RC g i (ackF n ((cP X).take (k + 1)) X0) ∧ anyH n ((cP X).take (k + 1)) = anyH n ((cP X).take k) := fun q => by
          rw [ackF_S n hp, if_neg q, anyH_S n hp, decide_eq_false q, Bool.or_false]
          exact ⟨hg, rfl⟩
        refine ⟨i, k, rfl, rfl, _, nI_add _ 0, by omega, fun h2 => ?_, fun h2 => ⟨_, nI_add _ 4, by omega, fun h3 => ?_, fun h3 => ?_⟩⟩
        · have h2 : ¬ (rW μ r g).1 (r + 1) (51 + 2406 * i + (66 + 86 * k) + 0) = n := h2
          rw [c0] at h2
          obtain ⟨q1, q2⟩ := nx fun q => h2 q.1
          refine ⟨100 * ((cP X).length - (k + 1)) + 50, akL r i (k + 1) n (bI (anyH n ((cP X).take (k + 1)))), by omega, ⟨rfl, rfl, rfl, by rw [q2], inc_tv k, trivial⟩, Or.inl ⟨k + 1, g, by omega, rfl, rfl, rfl, rfl, rfl, q1, ho, rfl, rfl⟩⟩
        · have h3 : ¬ (rW μ r g).1 (r + 1) (51 + 2406 * i + (66 + 86 * k) + 4) = 1 := h3
          rw [c4] at h3
          obtain ⟨q1, q2⟩ := nx fun q => h3 q.2
          refine ⟨100 * ((cP X).length - (k + 1)) + 50, akL r i (k + 1) n (bI (anyH n ((cP X).take (k + 1)))), by omega, ⟨rfl, rfl, rfl, by rw [q2], inc_tv k, trivial⟩, Or.inl ⟨k + 1, g, by omega, rfl, rfl, rfl, rfl, rfl, q1, ho, rfl, rfl⟩⟩
        · have h2 : ¬ ¬ (rW μ r g).1 (r + 1) (51 + 2406 * i + (66 + 86 * k) + 0) = n := h2
          have h3 : ¬ ¬ (rW μ r g).1 (r + 1) (51 + 2406 * i + (66 + 86 * k) + 4) = 1 := h3
          rw [c0, Classical.not_not] at h2
          rw [c4, Classical.not_not] at h3
          exact ⟨100 * ((cP X).length - k) + 50 - 1 - 0, akM r i k (51 + 2406 * i + (66 + 86 * k)) 0 n, by omega, ⟨rfl, rfl, rfl, rfl, rfl, rfl, rfl, trivial⟩, Or.inr (Or.inl ⟨k, g, p, 0, hp, ⟨h2, h3⟩, Nat.zero_le _, rfl, rfl, rfl, rfl, rfl, hg, ho, rfl, rfl⟩)⟩
    · have hPk : cP (setL' n (p.2.take z) (ackF n ((cP X).take k) X0)) = cP X := by rw [setL_P, ackF_P, hP0]
      have hk : k < (cP X).length := (List.getElem?_eq_some_iff.mp hp).1
      have hrp := hg.pk (by rw [hPk]; exact hp)
      have hlen := hrp.2.2.1
      have c5 : (rW μ r g).1 (r + 1) (51 + 2406 * i + (66 + 86 * k) + 5) = nI p.2.length := by rw [rW_at]; exact hrp.2.1
      refine ⟨_, nI_add _ 5, by omega, fun h1 => ?_, fun h1 => ?_⟩
      · simp only [icP, c5] at h1
        rw [nI_le_iff (by omega) (by omega)] at h1
        rw [List.take_of_length_le h1] at hg
        refine ⟨100 * ((cP X).length - (k + 1)) + 50, akL r i (k + 1) n (bI (anyH n ((cP X).take (k + 1)))), by omega, ⟨rfl, rfl, rfl, ?_, inc_tv k, trivial⟩, Or.inl ⟨k + 1, g, by omega, rfl, rfl, rfl, rfl, rfl, ?_, ho, rfl, rfl⟩⟩
        · rw [anyH_S n hp, decide_eq_true hh, Bool.or_true]
          rfl
        · rw [ackF_S n hp, if_pos hh]
          exact hg
      · simp only [icP, c5] at h1
        rw [nI_le_iff (by omega) (by omega)] at h1
        obtain ⟨en, hz2⟩ := at_of_lt (l := p.2) (k := z) (by omega)
        refine ⟨i, 51 + 2406 * i + (66 + 86 * k) + 6 + 5 * z, setL' n (p.2.take z) (ackF n ((cP X).take k) X0), en, rfl, ?_, hi, ?_, ?_, by omega, hen p (List.mem_of_getElem? hp) en (List.mem_of_getElem? hz2), fun f' hf hof => ⟨100 * ((cP X).length - k) + 50 - 1 - (z + 1), akM r i k (51 + 2406 * i + (66 + 86 * k)) (z + 1) n, by omega, ⟨rfl, rfl, rfl, rfl, rfl, rfl, inc_tv z, trivial⟩, Or.inr (Or.inl ⟨k, f', p, z + 1, hp, hh, by omega, rfl, rfl, rfl, rfl, rW_rW _ _ _ _, ?_, fun y hy => (hof y hy).trans (by rw [rW_at]; exact ho y hy), rfl, rfl⟩)⟩⟩
        · show nI _ + nI 6 + nI 5 * nI z = _
          rw [nI_mul, nI_add, nI_add]
        · rw [rW_at]; exact hg
        · intro y hy
          rw [rW_at]
          exact hrp.2.2.2 z en hz2 y hy
        · rw [setL_S n hz2]
          exact hf
    · have hPk : (cP (setP (ackF n (cP X) X0) (mapTo (zeroF n) (cP X) k))).length = (cP X).length := mapTo_len _ _ _
      have c65 := len hg hPk
      have swe : RC g i (setP (ackF n (cP X) X0) (if anyH n (cP X) = true then (cP X).map (zeroF n) else cP X)) → ∃ (i' : Nat) (Y : CS), nI i = nI i' ∧ i' < 3 ∧ RC ((rW μ r g).1 (r + 1)) i' Y ∧ RU (rW μ r g) r i' (setP Y (swp (cP Y))) (K (.inl none)) := fun hr =>
        ⟨i, _, rfl, hi, by rw [rW_at]; exact hr, fun f' hf hof => by
          rw [rW_rW]
          refine h f' ?_ fun y hy => (hof y hy).trans (by rw [rW_at]; exact ho y hy)
          unfold ackN
          rw [hX0]
          exact hf⟩
      refine ⟨i, 65, rfl, rfl, by omega, fun h1 => ?_, fun h1 => ⟨fun h2 => ?_, fun h2 => ?_⟩⟩
      · simp only [icP, c65] at h1
        rw [nI_le_iff (by omega) (by omega)] at h1
        refine swe ?_
        rw [mapTo_all _ _ h1] at hg
        rcases hka with rfl | hka
        · have e : cP X = [] := List.length_eq_zero_iff.mp (by omega)
          rw [e] at hg ⊢
          exact hg
        · rw [if_pos hka]
          exact hg
      · have h2 : bI (anyH n (cP X)) = 0 := h2
        have h3 : ¬ anyH n (cP X) = true := fun q => by rw [q] at h2; exact absurd h2 (by decide)
        refine swe ?_
        obtain rfl : k = 0 := hka.resolve_right h3
        rw [if_neg h3]
        rw [mapTo_0] at hg
        exact hg
      · have h2 : ¬ bI (anyH n (cP X)) = 0 := h2
        have h3 : anyH n (cP X) = true := by
          by_cases q : anyH n (cP X) = true
          · exact q
          · exact absurd (if_neg q) h2
        simp only [icP, c65] at h1
        rw [nI_le_iff (by omega) (by omega)] at h1
        obtain ⟨p, hp⟩ := at_of_lt (l := cP X) (k := k) (by omega)
        have hp2 : (cP (setP (ackF n (cP X) X0) (mapTo (zeroF n) (cP X) k)))[k]? = some p := mapTo_at _ hp
        have hrp := hg.pk hp2
        have c0 : (rW μ r g).1 (r + 1) (51 + 2406 * i + (66 + 86 * k) + 0) = p.1 0 := by rw [rW_at]; exact hrp.1 0 (by omega)
        have c4 : (rW μ r g).1 (r + 1) (51 + 2406 * i + (66 + 86 * k) + 4) = p.1 4 := by rw [rW_at]; exact hrp.1 4 (by omega)
        refine ⟨i, k, rfl, rfl, _, nI_add _ 0, by omega, fun h4 => ⟨_, nI_add _ 4, by omega, _, nI_add _ 4, by omega, (cP X).length - (k + 1), akL r i (k + 1) n (bI (anyH n (cP X))), by omega, ⟨rfl, rfl, rfl, rfl, inc_tv k, trivial⟩, Or.inr (Or.inr ⟨k + 1, g, by omega, Or.inr h3, rfl, rfl, rfl, rfl, ?_, ?_, ho, rfl, rfl⟩)⟩, fun h4 => ⟨_, nI_add _ 4, by omega, (cP X).length - (k + 1), akL r i (k + 1) n (bI (anyH n (cP X))), by omega, ⟨rfl, rfl, rfl, rfl, inc_tv k, trivial⟩, Or.inr (Or.inr ⟨k + 1, _, by omega, Or.inr h3, rfl, rfl, rfl, rfl, up2_rW _ _ _ _ |>.trans (rW_rW _ _ _ _), ?_, ?_, rfl, rfl⟩)⟩⟩
        · rw [up2_rW, rW_rW, rW_at, upd_self]
        · have h4 : n < (rW μ r g).1 (r + 1) (51 + 2406 * i + (66 + 86 * k) + 0) := h4
          rw [c0] at h4
          rw [mapTo_id _ hp (by unfold zeroF; rw [if_neg (Int32.not_le.mpr h4)])]
          exact hg
        · have h4 : ¬ n < (rW μ r g).1 (r + 1) (51 + 2406 * i + (66 + 86 * k) + 0) := h4
          rw [c0] at h4
          rw [rW_at]
          have e : zeroF n p = (upd p.1 4 0, p.2) := if_pos (Int32.not_lt.mp h4)
          rw [mapTo_S _ hp, e]
          exact hg.PH hp2 (by omega) 0
        · intro y hy
          rw [rW_at, upd_ne _ _ (by omega)]
          exact ho y hy
end
section
/-! THE REFERENCE: all that arrives. -/
def arN (t : Int32) (l : List PK) : Nat := (l.filter fun p => decide (p.1 3 = t)).length
theorem arN_S (t : Int32) {l : List PK} {k : Nat} {p : PK} (h : l[k]? = some p) : arN t (l.take (k + 1)) = arN t (l.take k) + (if p.1 3 = t then 1 else 0) := by
  have ht : l.take (k + 1) = l.take k ++ [p] := by rw [List.take_add_one, h]; rfl
  unfold arN
  rw [ht, List.filter_append, List.length_append]
  congr 1
  by_cases hp : p.1 3 = t
  · rw [if_pos hp]
    have e : ([p] : List PK).filter (fun p => decide (p.1 3 = t)) = [p] := List.filter_cons_of_pos (decide_eq_true hp)
    rw [e]
    rfl
  · rw [if_neg hp]
    have e : ([p] : List PK).filter (fun p => decide (p.1 3 = t)) = [] := List.filter_cons_of_neg (by rw [decide_eq_false hp]; decide)
    rw [e]
    rfl
theorem arN_le (t : Int32) (l : List PK) (k : Nat) : arN t (l.take k) ≤ arN t l := by
  unfold arN
  exact (List.Sublist.filter _ (List.take_sublist k l)).length_le
theorem arrP_S (t d : Int32) {l : List PK} {k : Nat} {p : PK} (h : l[k]? = some p) (X : CS) : arrP t d (l.take (k + 1)) X = if p.1 3 = t then rcvP t d p (arrP t d (l.take k) X) else arrP t d (l.take k) X := by
  have ht : l.take (k + 1) = l.take k ++ [p] := by rw [List.take_add_one, h]; rfl
  unfold arrP
  rw [ht, List.foldl_append]
  rfl
theorem rcvE_setP (n : Int32) (X : CS) (L : List PK) (en : EN) : rcvE n (setP X L) en = setP (rcvE n X en) L := by
  unfold rcvE
  split
  · rfl
  · split
    · split <;> rfl
    · rfl
theorem rcvL_setP (n : Int32) (L : List PK) : ∀ (l : List EN) (X : CS), rcvL n l (setP X L) = setP (rcvL n l X) L
  | [], _ => rfl
  | en :: l, X => by
    show rcvL n l (rcvE n (setP X L) en) = _
    rw [rcvE_setP, rcvL_setP n L l]
    rfl
theorem ackS_setP (t d n : Int32) (X : CS) (L : List PK) : ackS t d n (setP X L) = setP (ackS t d n X) L := by
  unfold ackS
  split <;> rfl
theorem rcvP_setP (t d : Int32) (p : PK) (X : CS) (L : List PK) : rcvP t d p (setP X L) = setP (rcvP t d p X) L := by
  show ackS t d (p.1 0) (rcvL (p.1 0) p.2 (setP X L)) = _
  rw [rcvL_setP, ackS_setP]
  rfl
theorem rcvP_A (t d : Int32) (p : PK) (X : CS) : (cA (rcvP t d p X)).length ≤ (cA X).length + 1 := by
  show (cA (ackS t d (p.1 0) (rcvL (p.1 0) p.2 X))).length ≤ _
  unfold ackS
  split
  · show (cA (rcvL (p.1 0) p.2 X)).length ≤ _
    rw [rcvL_A]
    omega
  · show (cA (rcvL (p.1 0) p.2 X) ++ [_]).length ≤ _
    rw [List.length_append, rcvL_A]
    exact Nat.le_refl _
theorem rcvP_RI (t d : Int32) (p : PK) (X : CS) (h : RI X) (hen : ∀ en ∈ p.2, enOK en) : RI (rcvP t d p X) := by
  have := rcvL_RI (p.1 0) p.2 X h hen
  show RI (ackS t d (p.1 0) (rcvL (p.1 0) p.2 X))
  unfold ackS
  split <;> exact this
theorem setP_setP (X : CS) (L M : List PK) : setP (setP X L) M = setP X M := rfl
theorem ackF_setA (n : Int32) (L : List (Int32 × Int32)) : ∀ (l : List PK) (X : CS), ackF n l (setA X L) = setA (ackF n l X) L
  | [], _ => rfl
  | p :: l, X => by
    have e1 : ∀ (l : List EN) (X : CS), setL' n l (setA X L) = setA (setL' n l X) L := fun l => by
      induction l with
      | nil => exact fun _ => rfl
      | cons en l ih =>
        intro X
        show setL' n l (setl n (setA X L) en) = setA (setL' n l (setl n X en)) L
        rw [← ih]
        congr 1
        unfold setl
        split <;> rfl
    show ackF n l (if hit n p then setL' n p.2 (setA X L) else setA X L) = setA (ackF n l (if hit n p then setL' n p.2 X else X)) L
    rw [← ackF_setA n L l]
    congr 1
    split
    · exact e1 _ _
    · rfl
theorem ackN_setA (n : Int32) (X : CS) (L : List (Int32 × Int32)) : ackN n (setA X L) = setA (ackN n X) L := by
  have := ackF_setA n L (cP X) (setS X 12 (cS X 12 + 1))
  show setP (ackF n (cP X) (setA (setS X 12 (cS X 12 + 1)) L)) _ = _
  rw [this]
  rfl
theorem ackF_A (n : Int32) : ∀ (l : List PK) (X : CS), cA (ackF n l X) = cA X := fun l X => by
  have := ackF_setA n (cA X) l X
  have e : setA X (cA X) = X := rfl
  rw [e] at this
  rw [this]
theorem ackN_A (n : Int32) (X : CS) : cA (ackN n X) = cA X := ackF_A n _ _
def eOK (X : CS) : Prop := ∀ p ∈ cP X, ∀ en ∈ p.2, enOK en
theorem zeroF_2 (n : Int32) (p : PK) : (zeroF n p).2 = p.2 := by unfold zeroF; split <;> rfl
theorem zeroA_2 (t : Int32) (p : PK) : (zeroA t p).2 = p.2 := by unfold zeroA; split <;> rfl
theorem zeroO_2 (t lim : Int32) (p : PK) : (zeroO t lim p).2 = p.2 := by unfold zeroO; split <;> rfl
theorem ackN_e (n : Int32) {X : CS} (h : eOK X) : eOK (ackN n X) := fun p hp en he => by
  have hp := (List.mem_filter.mp hp).1
  split at hp
  · obtain ⟨q, hq, rfl⟩ := List.mem_map.mp hp
    rw [zeroF_2] at he
    exact h q hq en he
  · exact h p hp en he
def akA (t : Int32) (l : List (Int32 × Int32)) (X : CS) : CS := l.foldl (fun X a => if a.2 = t then ackN a.1 X else X) X
theorem akA_S (t : Int32) {l : List (Int32 × Int32)} {k : Nat} {q : Int32 × Int32} (h : l[k]? = some q) (X : CS) : akA t (l.take (k + 1)) X = if q.2 = t then ackN q.1 (akA t (l.take k) X) else akA t (l.take k) X := by
  have ht : l.take (k + 1) = l.take k ++ [q] := by rw [List.take_add_one, h]; rfl
  unfold akA
  rw [ht, List.foldl_append]
  rfl
theorem akA_e (t : Int32) : ∀ (l : List (Int32 × Int32)) (X : CS), eOK X → eOK (akA t l X)
  | [], _, h => h
  | q :: l, X, h => akA_e t l _ (by
    show eOK (if q.2 = t then ackN q.1 X else X)
    split
    · exact ackN_e _ h
    · exact h)
abbrev kpA (t : Int32) (l : List (Int32 × Int32)) : List (Int32 × Int32) := l.filter fun a => decide (¬ a.2 = t)
theorem kpA_S (t : Int32) {l : List (Int32 × Int32)} {k : Nat} {q : Int32 × Int32} (h : l[k]? = some q) : kpA t (l.take (k + 1)) = kpA t (l.take k) ++ (if q.2 = t then [] else [q]) := by
  have ht : l.take (k + 1) = l.take k ++ [q] := by rw [List.take_add_one, h]; rfl
  unfold kpA
  rw [ht, List.filter_append]
  congr 1
  by_cases hp : q.2 = t
  · rw [if_pos hp]
    exact List.filter_cons_of_neg (by simp [hp])
  · rw [if_neg hp]
    exact List.filter_cons_of_pos (by simp [hp])
theorem kpA_le (t : Int32) (l : List (Int32 × Int32)) (k : Nat) : (kpA t (l.take k)).length ≤ k := Nat.le_trans (List.length_filter_le _ _) (by rw [List.length_take]; omega)
end
section
def avL (r i k : Nat) : LC := [some (.inr (.inr (20, r))), some (.inl (nI i)), some (.inl (nI k)), none, none, none]
def avM (r i w n k : Nat) : LC := [some (.inr (.inr (20, r))), some (.inl (nI i)), some (.inl (nI w)), some (.inl (nI n)), some (.inl (nI k)), none]
theorem RC.AS {f : Nat → Int32} {c : Nat} {X : CS} (h : RC f c X) {w : Nat} (hw : w < (cA X).length) (q : Int32 × Int32) : RC (upd (upd f (51 + 2406 * c + (17 + 2 * w)) q.1) (51 + 2406 * c + (17 + 2 * w) + 1) q.2) c (setA X ((cA X).set w q)) := by
  obtain ⟨h1, h2, h3, h4, h5⟩ := h
  have hl := h2.2.1
  have kp : ∀ z, (¬ z = 51 + 2406 * c + (17 + 2 * w) ∧ ¬ z = 51 + 2406 * c + (17 + 2 * w) + 1) → upd (upd f (51 + 2406 * c + (17 + 2 * w)) q.1) (51 + 2406 * c + (17 + 2 * w) + 1) q.2 z = f z := fun z hz => by
    rw [upd_ne _ _ hz.2, upd_ne _ _ hz.1]
  refine ⟨RS.keep h1 fun z z1 z2 => kp z (by omega), ⟨?_, ?_, fun j p hp => ?_⟩, RPL.keep h3 fun z z1 z2 => kp z (by omega), RB.keep h4 fun z z1 z2 => kp z (by omega), RD.keep h5 fun z z1 z2 => kp z (by omega)⟩
  · rw [kp _ (by omega)]
    show _ = nI ((cA X).set w q).length
    rw [List.length_set]
    exact h2.1
  · show ((cA X).set w q).length ≤ 24
    rw [List.length_set]
    exact hl
  · have hp : ((cA X).set w q)[j]? = some p := hp
    by_cases hj : w = j
    · subst hj
      rw [List.getElem?_set_self hw] at hp
      cases hp
      refine ⟨?_, ?_⟩
      · rw [upd_ne _ _ (by omega), upd_eq]
      · rw [upd_eq]
    · rw [List.getElem?_set_ne hj] at hp
      rw [kp _ (by omega), kp _ (by omega)]
      exact h2.2.2 j p hp
/-- the list of acknowledgements while it is gone through -/
def goA (t : Int32) (l : List (Int32 × Int32)) (k : Nat) : List (Int32 × Int32) := kpA t (l.take k) ++ l.drop (kpA t (l.take k)).length
theorem goA_len (t : Int32) (l : List (Int32 × Int32)) {k : Nat} (hk : k ≤ l.length) : (goA t l k).length = l.length := by
  have := kpA_le t l k
  unfold goA
  rw [List.length_append, List.length_drop]
  omega
theorem goA_at (t : Int32) {l : List (Int32 × Int32)} {k : Nat} {q : Int32 × Int32} (h : l[k]? = some q) : (goA t l k)[k]? = some q := by
  have := kpA_le t l k
  unfold goA
  rw [List.getElem?_append_right (by omega), List.getElem?_drop]
  rw [← h]
  congr 1
  omega
theorem goA_no (t : Int32) {l : List (Int32 × Int32)} {k : Nat} {q : Int32 × Int32} (h : l[k]? = some q) (hq : q.2 = t) : goA t l (k + 1) = goA t l k := by
  unfold goA
  rw [kpA_S t h, if_pos hq, List.append_nil]
theorem goA_S (t : Int32) {l : List (Int32 × Int32)} {k : Nat} {q : Int32 × Int32} (h : l[k]? = some q) (hq : ¬ q.2 = t) : goA t l (k + 1) = (goA t l k).set (kpA t (l.take k)).length q := by
  have hw := kpA_le t l k
  have hk : k < l.length := (List.getElem?_eq_some_iff.mp h).1
  unfold goA
  rw [kpA_S t h, if_neg hq, List.length_append]
  generalize kpA t (l.take k) = P at hw
  have e : l.drop P.length = l[P.length] :: l.drop (P.length + 1) := List.drop_eq_getElem_cons (by omega)
  rw [e, List.set_append_right _ _ (Nat.le_refl _), Nat.sub_self, List.append_assoc]
  rfl
def sp_X10_arriveAll : SPc := fun As μ K => match As with
  | [.inr (.inr (20, r)), .inl c] => ∃ (i : Nat) (X : CS), c = nI i ∧ i < 3 ∧ RC (μ.1 (r + 1)) i X ∧ eOK X ∧ RI X ∧ (cA X).length + arN (μ.1 (r + 1) 0) (cP X) ≤ 24 ∧ RU μ r i (arrC (μ.1 (r + 1) 0) (μ.1 (r + 1) 1) X) (K (.inl none))
  | _ => False
def ct_X10_arriveAll : List (Nat × CI) := [(80, ci_X10_of), (125, ci_X10_packetCell), (137, ci_X10_receive), (134, ci_X10_sweep), (77, ci_X10_cell), (141, ci_X10_acknowledge)]
def ci_X10_arriveAll : CI := (yX10_arriveAll, cX10_arriveAll, 6, none, 2, (5, 0, 0, 118), 19, [], sp_X10_arriveAll)
set_option maxRecDepth 100000 in
theorem ck_X10_arriveAll : chkM ci_X10_arriveAll RX10 co_X10_arriveAll ct_X10_arriveAll [] false false = true := by decide +kernel
set_option maxHeartbeats 4000000 in
set_option maxRecDepth 100000 in
theorem ms_X10_arriveAll {g : GPT} {ot : OT} {l : Launch} (hl : l.stackTraces = false) : MS g ot l ci_X10_arriveAll := by
  refine ms_of hl RX10 co_X10_arriveAll ct_X10_arriveAll [] false false [2,65] 118 ck_X10_arriveAll (List.forall_mem_cons.mpr ⟨ms_X10_of hl, List.forall_mem_cons.mpr ⟨ms_X10_packetCell hl, List.forall_mem_cons.mpr ⟨ms_X10_receive hl, List.forall_mem_cons.mpr ⟨ms_X10_sweep hl, List.forall_mem_cons.mpr ⟨ms_X10_cell hl, List.forall_mem_cons.mpr ⟨ms_X10_acknowledge hl, fun _ h => nomatch h⟩⟩⟩⟩⟩⟩) ?_
  intro As μ K h
  simp only [ci_X10_arriveAll, sp_X10_arriveAll] at h
  split at h
  case h_2 => exact h.elim
  rename_i r c
  obtain ⟨i, X, rfl, hi, hX, hE, hI, hA, h⟩ := h
  have hl2 := hX.2.2.1.2.1
  generalize ht : μ.1 (r + 1) 0 = t at h hA
  generalize hd : μ.1 (r + 1) 1 = d at h
  have fr0 : ∀ {g : Nat → Int32}, (∀ z, z < 51 + 2406 * i ∨ 51 + 2406 * i + 2406 ≤ z → g z = μ.1 (r + 1) z) → (rW μ r g).1 (r + 1) 0 = t := fun ho => by rw [rW_at, ho 0 (by omega)]; exact ht
  have fr1 : ∀ {g : Nat → Int32}, (∀ z, z < 51 + 2406 * i ∨ 51 + 2406 * i + 2406 ≤ z → g z = μ.1 (r + 1) z) → (rW μ r g).1 (r + 1) 1 = d := fun ho => by rw [rW_at, ho 1 (by omega)]; exact hd
  have inv : ∀ k, k ≤ (cP X).length → RI (arrP t d ((cP X).take k) X) ∧ (cA (arrP t d ((cP X).take k) X)).length ≤ (cA X).length + arN t ((cP X).take k) := fun k => by
    induction k with
    | zero => exact fun _ => ⟨hI, Nat.le_add_right _ _⟩
    | succ k ih =>
      intro hk
      obtain ⟨i1, i2⟩ := ih (by omega)
      obtain ⟨p, hp⟩ := at_of_lt (l := cP X) (k := k) (by omega)
      rw [arrP_S t d hp, arN_S t hp]
      by_cases q : p.1 3 = t
      · rw [if_pos q, if_pos q]
        have := rcvP_A t d p (arrP t d ((cP X).take k) X)
        exact ⟨rcvP_RI t d p _ i1 (hE p (List.mem_of_getElem? hp)), by omega⟩
      · rw [if_neg q, if_neg q]
        exact ⟨i1, i2⟩
  refine ⟨Nat.le_of_ble_eq_true rfl, fun m pc lc st μ' ce sl => (∃ k g, k ≤ (cP X).length ∧ m = 100 + ((cP X).length - k) ∧ pc = 2 ∧ lc = avL r i k ∧ st = [] ∧ μ' = rW μ r g ∧ RC g i (setP (arrP t d ((cP X).take k) X) (mapTo (zeroA t) (cP X) k)) ∧ (∀ z, z < 51 + 2406 * i ∨ 51 + 2406 * i + 2406 ≤ z → g z = μ.1 (r + 1) z) ∧ ce = 0 ∧ sl = 0) ∨
    (∃ k g, k ≤ (cA (arr1 t d X)).length ∧ m = (cA (arr1 t d X)).length - k ∧ pc = 65 ∧ lc = avM r i (kpA t ((cA (arr1 t d X)).take k)).length (cA (arr1 t d X)).length k ∧ st = [] ∧ μ' = rW μ r g ∧ RC g i (setA (akA t ((cA (arr1 t d X)).take k) (arr1 t d X)) (goA t (cA (arr1 t d X)) k)) ∧ (∀ z, z < 51 + 2406 * i ∨ 51 + 2406 * i + 2406 ≤ z → g z = μ.1 (r + 1) z) ∧ ce = 0 ∧ sl = 0), ?_, ?_⟩
  · refine ⟨100 + ((cP X).length - 0), avL r i 0, ⟨rfl, rfl, rfl, trivial⟩, Or.inl ⟨0, μ.1 (r + 1), Nat.zero_le _, rfl, rfl, rfl, rfl, (rW_self μ r).symm, ?_, fun z _ => rfl, rfl, rfl⟩⟩
    rw [mapTo_0]
    exact hX
  · rintro m pc lc st μ' ce sl (⟨k, g, hk, rfl, rfl, rfl, rfl, rfl, hg, ho, rfl, rfl⟩ | ⟨k, g, hk, rfl, rfl, rfl, rfl, rfl, hg, ho, rfl, rfl⟩)
    · have c65 : (rW μ r g).1 (r + 1) (51 + 2406 * i + 65) = nI (cP X).length := by
        rw [rW_at]
        have := hg.2.2.1.1
        have e : (cP (setP (arrP t d ((cP X).take k) X) (mapTo (zeroA t) (cP X) k))).length = (cP X).length := mapTo_len _ _ _
        rw [e] at this
        exact this
      refine ⟨i, 65, rfl, rfl, by omega, fun h1 => ?_, fun h1 => ?_⟩
      · simp only [icP, c65] at h1
        rw [nI_le_iff (by omega) (by omega)] at h1
        rw [List.take_of_length_le h1, mapTo_all _ _ h1] at hg
        refine ⟨i, _, rfl, hi, by rw [rW_at]; exact hg, fun f' hf hof => ?_⟩
        rw [rW_rW]
        have hf : RC f' i (arr1 t d X) := hf
        have ho' : ∀ z, z < 51 + 2406 * i ∨ 51 + 2406 * i + 2406 ≤ z → f' z = μ.1 (r + 1) z := fun z hz => (hof z hz).trans (by rw [rW_at]; exact ho z hz)
        have s16 : (rW μ r f').1 (r + 1) (51 + 2406 * i + 16) = nI (cA (arr1 t d X)).length := by rw [rW_at]; exact hf.2.1.1
        refine ⟨i, 16, rfl, rfl, by omega, (cA (arr1 t d X)).length - 0, avM r i 0 (cA (arr1 t d X)).length 0, ?_, ⟨rfl, rfl, rfl, ?_, rfl, trivial⟩, Or.inr ⟨0, f', Nat.zero_le _, rfl, rfl, rfl, rfl, rfl, hf, ho', rfl, rfl⟩⟩
        · have := hf.2.1.2.1
          omega
        · rw [s16]
      · simp only [icP, c65] at h1
        rw [nI_le_iff (by omega) (by omega)] at h1
        obtain ⟨p, hp⟩ := at_of_lt (l := cP X) (k := k) (by omega)
        have hp2 : (cP (setP (arrP t d ((cP X).take k) X) (mapTo (zeroA t) (cP X) k)))[k]? = some p := mapTo_at _ hp
        have c3 : (rW μ r g).1 (r + 1) (51 + 2406 * i + (66 + 86 * k) + 3) = p.1 3 := by rw [rW_at]; exact (hg.pk hp2).1 3 (by omega)
        obtain ⟨i1, i2⟩ := inv k hk
        have i3 := arN_le t (cP X) (k + 1)
        have i4 := arN_S t hp
        refine ⟨i, k, rfl, rfl, _, nI_add _ 3, by omega, 0, rfl, by omega, fun h2 => ?_, fun h2 => ⟨i, k, _, p, rfl, rfl, hi, by rw [rW_at]; exact hg, hp2, hE p (List.mem_of_getElem? hp), i1, ?_, fun f' hf hof => ?_⟩⟩
        · have h2 : ¬ (rW μ r g).1 (r + 1) (51 + 2406 * i + (66 + 86 * k) + 3) = (rW μ r g).1 (r + 1) 0 := h2
          rw [c3, fr0 ho] at h2
          refine ⟨100 + ((cP X).length - (k + 1)), avL r i (k + 1), by omega, ⟨rfl, rfl, inc_tv k, trivial⟩, Or.inl ⟨k + 1, g, by omega, rfl, rfl, rfl, rfl, rfl, ?_, ho, rfl, rfl⟩⟩
          rw [arrP_S t d hp, if_neg h2, mapTo_id _ hp (by unfold zeroA; rw [if_neg h2])]
          exact hg
        · have h2 : ¬ ¬ (rW μ r g).1 (r + 1) (51 + 2406 * i + (66 + 86 * k) + 3) = (rW μ r g).1 (r + 1) 0 := h2
          rw [c3, fr0 ho, Classical.not_not] at h2
          rw [if_pos h2] at i4
          show (cA (arrP t d ((cP X).take k) X)).length ≤ 23
          omega
        · have h2 : ¬ ¬ (rW μ r g).1 (r + 1) (51 + 2406 * i + (66 + 86 * k) + 3) = (rW μ r g).1 (r + 1) 0 := h2
          rw [c3, fr0 ho, Classical.not_not] at h2
          rw [rW_rW]
          refine ⟨100 + ((cP X).length - (k + 1)), avL r i (k + 1), by omega, ⟨rfl, rfl, inc_tv k, trivial⟩, Or.inl ⟨k + 1, f', by omega, rfl, rfl, rfl, rfl, rfl, ?_, fun z hz => (hof z hz).trans (by rw [rW_at]; exact ho z hz), rfl, rfl⟩⟩
          rw [fr0 ho, fr1 ho, rcvP_setP] at hf
          rw [arrP_S t d hp, if_pos h2, mapTo_S _ hp]
          have e : zeroA t p = (upd p.1 3 0, p.2) := if_pos h2
          rw [e]
          exact hf
    · have hw := kpA_le t (cA (arr1 t d X)) k
      have hE1 : eOK (arr1 t d X) := fun p hp en he => by
        have hp := (List.mem_filter.mp hp).1
        obtain ⟨q, hq, rfl⟩ := List.mem_map.mp hp
        rw [zeroA_2] at he
        exact hE q hq en he
      have hC : arrC t d X = arr2 t (arr1 t d X) := rfl
      rw [hC] at h
      clear hC inv
      generalize arr1 t d X = Y at *
      have hl24 : (cA Y).length ≤ 24 := by
        have := hg.2.1.2.1
        have e : (cA (setA (akA t ((cA Y).take k) Y) (goA t (cA Y) k))).length = (cA Y).length := goA_len t _ hk
        rw [e] at this
        exact this
      refine ⟨fun h1 => ?_, fun h1 => ?_⟩
      · simp only [icP, ifP, iL, iM1] at h1
        try simp only [z_nI] at h1
        try simp only [nI_add, nI_mul] at h1
        first | rw [nI_le_iff (by omega) (by omega)] at h1 | rw [nI_lt_iff (by omega) (by omega)] at h1 | rw [nI_eq_iff (by omega) (by omega)] at h1
        obtain rfl : k = (cA Y).length := by omega
        refine ⟨i, 16, rfl, rfl, _, rfl, by omega, ?_⟩
        show K _ _
        simp only [up2_rW, rW_rW, rW_at]
        refine h _ ?_ fun z hz => by
          rw [upd_ne _ _ (by omega)]
          exact ho z hz
        obtain ⟨h1, h2, h3, h4, h5⟩ := hg
        rw [List.take_length] at h1 h2 h3 h4 h5 ⊢
        refine ⟨RS.keep h1 fun z z1 z2 => upd_ne _ _ (by omega), ⟨?_, ?_, fun j q hq => ?_⟩, RPL.keep h3 fun z z1 z2 => upd_ne _ _ (by omega), RB.keep h4 fun z z1 z2 => upd_ne _ _ (by omega), RD.keep h5 fun z z1 z2 => upd_ne _ _ (by omega)⟩
        · rw [upd_eq]
          rfl
        · show (kpA t (cA Y)).length ≤ 24
          rw [List.take_length] at hw
          omega
        · have hq : (kpA t (cA Y))[j]? = some q := hq
          have hj : j < (kpA t (cA Y)).length := (List.getElem?_eq_some_iff.mp hq).1
          rw [upd_ne _ _ (by omega), upd_ne _ _ (by omega)]
          refine h2.2.2 j q ?_
          show (goA t (cA Y) (cA Y).length)[j]? = some q
          unfold goA
          rw [List.take_length, List.getElem?_append_left hj]
          exact hq
      · simp only [icP, ifP, iL, iM1] at h1
        try simp only [z_nI] at h1
        try simp only [nI_add, nI_mul] at h1
        first | rw [nI_le_iff (by omega) (by omega)] at h1 | rw [nI_lt_iff (by omega) (by omega)] at h1 | rw [nI_eq_iff (by omega) (by omega)] at h1
        obtain ⟨q, hq⟩ := at_of_lt (l := cA Y) (k := k) (by omega)
        obtain ⟨b1, b2⟩ := hg.2.1.2.2 k q (goA_at t hq)
        have c1 : (rW μ r g).1 (r + 1) (51 + 2406 * i + (17 + 2 * k) + 1) = q.2 := by rw [rW_at]; exact b2
        have c0 : (rW μ r g).1 (r + 1) (51 + 2406 * i + (17 + 2 * k)) = q.1 := by rw [rW_at]; exact b1
        have ix : nI 17 + nI 2 * nI k = nI (17 + 2 * k) := by rw [nI_mul, nI_add]
        have ixw : nI 17 + nI 2 * nI (kpA t ((cA Y).take k)).length = nI (17 + 2 * (kpA t ((cA Y).take k)).length) := by rw [nI_mul, nI_add]
        refine ⟨i, 17 + 2 * k, rfl, ix, _, nI_add _ 1, by omega, 0, rfl, by omega, fun h2 => ?_, fun h2 => ?_⟩
        · have h2 : ¬ (rW μ r g).1 (r + 1) (51 + 2406 * i + (17 + 2 * k) + 1) = (rW μ r g).1 (r + 1) 0 := h2
          rw [c1, fr0 ho] at h2
          have hR := hg.AS (w := (kpA t ((cA Y).take k)).length) (by show _ < (goA t (cA Y) k).length; rw [goA_len t _ hk]; omega) q
          have e : (cA (setA (akA t ((cA Y).take k) Y) (goA t (cA Y) k))).set (kpA t ((cA Y).take k)).length q = goA t (cA Y) (k + 1) := (goA_S t hq h2).symm
          rw [e] at hR
          have e2 : akA t ((cA Y).take (k + 1)) Y = akA t ((cA Y).take k) Y := by rw [akA_S t hq, if_neg h2]
          have e3 : (kpA t ((cA Y).take (k + 1))).length = (kpA t ((cA Y).take k)).length + 1 := by rw [kpA_S t hq, if_neg h2, List.length_append]; rfl
          refine ⟨i, 17 + 2 * (kpA t ((cA Y).take k)).length, rfl, ixw, _, rfl, by omega, _, rfl, by omega, i, 17 + 2 * (kpA t ((cA Y).take k)).length, rfl, ixw, _, nI_add _ 1, by omega, _, nI_add _ 1, by omega, (cA Y).length - (k + 1), avM r i (kpA t ((cA Y).take (k + 1))).length (cA Y).length (k + 1), by omega, ⟨rfl, rfl, ?_, rfl, inc_tv k, trivial⟩, Or.inr ⟨k + 1, _, by omega, rfl, rfl, rfl, rfl, ?_, (by rw [e2]; exact hR), fun z hz => ?_, rfl, rfl⟩⟩
          · rw [e3]
            exact inc_tv _
          · simp only [up2_stF, stF_rW, stF_stF, stF_at, rW_rW, rW_at]
            rw [upd_ne (k := 51 + 2406 * i + (17 + 2 * k) + 1) _ _ (by omega)]
            rw [rW_at] at c0 c1
            rw [c0, c1]
          · rw [upd_ne _ _ (by omega), upd_ne _ _ (by omega)]
            exact ho z hz
        · have h2 : ¬ ¬ (rW μ r g).1 (r + 1) (51 + 2406 * i + (17 + 2 * k) + 1) = (rW μ r g).1 (r + 1) 0 := h2
          rw [c1, fr0 ho, Classical.not_not] at h2
          refine ⟨_, rfl, by omega, i, setA (akA t ((cA Y).take k) Y) (goA t (cA Y) k), rfl, hi, by rw [rW_at]; exact hg, fun p hp en he => akA_e t _ _ hE1 p hp en he, fun f' hf hof => ?_⟩
          rw [rW_rW]
          refine ⟨(cA Y).length - (k + 1), avM r i (kpA t ((cA Y).take (k + 1))).length (cA Y).length (k + 1), by omega, ⟨rfl, rfl, ?_, rfl, inc_tv k, trivial⟩, Or.inr ⟨k + 1, f', by omega, rfl, rfl, rfl, rfl, rfl, ?_, fun z hz => (hof z hz).trans (by rw [rW_at]; exact ho z hz), rfl, rfl⟩⟩
          · rw [kpA_S t hq, if_pos h2, List.append_nil]
          · rw [c0, ackN_setA] at hf
            rw [goA_no t hq h2, akA_S t hq, if_pos h2]
            exact hf
end
section
/-! THE REFERENCE: the next by its priority. -/
def nxtN (T : Nat → Int32) (B : Nat → Nat → Int32) : Nat → Option Nat
  | 0 => none
  | n + 1 => match nxtN T B n with
    | none => if T n = 0 ∧ 0 < B n 0 then some n else none
    | some f => if T n = 0 ∧ 0 < B n 0 ∧ B f 0 < B n 0 then some n else some f
theorem nxtN_lt (T : Nat → Int32) (B : Nat → Nat → Int32) : ∀ n f, nxtN T B n = some f → f < n
  | 0, f, h => by cases h
  | n + 1, f, h => by
    have ih := nxtN_lt T B n
    unfold nxtN at h
    cases hq : nxtN T B n with
    | none =>
      rw [hq] at h
      simp only at h
      split at h
      · cases h; omega
      · cases h
    | some f' =>
      rw [hq] at h
      have := ih f' hq
      simp only at h
      split at h
      · cases h; omega
      · cases h; omega
def oV (o : Option Nat) : Int32 := match o with
  | none => -1
  | some n => nI n
def nxL (r i e : Nat) (x : Int32) : LC := [some (.inr (.inr (20, r))), some (.inl (nI i)), some (.inl x), some (.inl (nI e)), none]
def sp_X10_nextByPriority : SPc := fun As μ K => match As with
  | [.inr (.inr (20, r)), .inl c] => ∃ (i : Nat) (X : CS), c = nI i ∧ i < 3 ∧ RC (μ.1 (r + 1)) i X ∧ K (.inl (some (.inl (oV (nxtN (μ.1 (r + 5)) (cB X) 16))))) μ
  | _ => False
def ct_X10_nextByPriority : List (Nat × CI) := [(83, ci_X10_base)]
def ci_X10_nextByPriority : CI := (yX10_nextByPriority, cX10_nextByPriority, 5, some .int, 2, (2, 0, 0, 42), 19, [], sp_X10_nextByPriority)
set_option maxRecDepth 100000 in
theorem ck_X10_nextByPriority : chkM ci_X10_nextByPriority RX10 co_X10_nextByPriority ct_X10_nextByPriority [] false false = true := by decide +kernel
set_option maxHeartbeats 4000000 in
set_option maxRecDepth 100000 in
theorem ms_X10_nextByPriority {g : GPT} {ot : OT} {l : Launch} (hl : l.stackTraces = false) : MS g ot l ci_X10_nextByPriority := by
  refine ms_of hl RX10 co_X10_nextByPriority ct_X10_nextByPriority [] false false [4] 45 ck_X10_nextByPriority (List.forall_mem_cons.mpr ⟨ms_X10_base hl, fun _ h => nomatch h⟩) ?_
  intro As μ K h
  simp only [ci_X10_nextByPriority, sp_X10_nextByPriority] at h
  split at h
  case h_2 => exact h.elim
  rename_i r c
  obtain ⟨i, X, rfl, hi, hX, h⟩ := h
  refine ⟨Nat.le_of_ble_eq_true rfl, fun m pc lc st μ' ce sl => ∃ k, k ≤ 16 ∧ m = 16 - k ∧ pc = 4 ∧ lc = nxL r i k (oV (nxtN (μ.1 (r + 5)) (cB X) k)) ∧ st = [] ∧ μ = μ' ∧ ce = 0 ∧ sl = 0, ?_, ?_⟩
  · exact ⟨16, nxL r i 0 (-1), ⟨rfl, rfl, rfl, rfl, trivial⟩, 0, Nat.zero_le _, rfl, rfl, rfl, rfl, rfl, rfl, rfl⟩
  · rintro m pc lc st μ' ce sl ⟨k, hk, rfl, rfl, rfl, rfl, rfl, rfl, rfl⟩
    refine ⟨fun h1 => ?_, fun h1 => ?_⟩
    · simp only [icP, ifP, iL, iM1] at h1
      try simp only [z_nI] at h1
      try simp only [nI_add, nI_mul] at h1
      first | rw [nI_le_iff (by omega) (by omega)] at h1 | rw [nI_lt_iff (by omega) (by omega)] at h1 | rw [nI_eq_iff (by omega) (by omega)] at h1
      obtain rfl : k = 16 := by omega
      exact h
    · simp only [icP, ifP, iL, iM1] at h1
      try simp only [z_nI] at h1
      try simp only [nI_add, nI_mul] at h1
      first | rw [nI_le_iff (by omega) (by omega)] at h1 | rw [nI_lt_iff (by omega) (by omega)] at h1 | rw [nI_eq_iff (by omega) (by omega)] at h1
      have b0 : ∀ e, e < 16 → μ.1 (r + 1) (51 + 2406 * i + (1958 + 3 * e)) = cB X e 0 := fun e he => hX.2.2.2.1 e he 0 (by omega)
      have bk := b0 k (by omega)
      have fin : ∀ x, x = oV (nxtN (μ.1 (r + 5)) (cB X) (k + 1)) → ∃ n' lc', n' < 16 - k ∧ subL lc' [some (.inr (.inr (20, r))), some (.inl (nI i)), some (.inl x), some (.inl (nI k + Int32.ofInt 1)), some (.inl (μ.1 (r + 1) (51 + 2406 * i + (1958 + 3 * k))))] ∧ (∃ k, k ≤ 16 ∧ n' = 16 - k ∧ 4 = 4 ∧ lc' = nxL r i k (oV (nxtN (μ.1 (r + 5)) (cB X) k)) ∧ ([] : List TV) = [] ∧ μ = μ ∧ 0 = 0 ∧ 0 = 0) := fun x hx =>
        ⟨16 - (k + 1), nxL r i (k + 1) (oV (nxtN (μ.1 (r + 5)) (cB X) (k + 1))), by omega, ⟨rfl, rfl, by rw [hx], inc_tv k, trivial⟩, k + 1, by omega, rfl, rfl, rfl, rfl, rfl, rfl, rfl⟩
      have keep : ¬ (μ.1 (r + 5) k = 0 ∧ 0 < cB X k 0) → oV (nxtN (μ.1 (r + 5)) (cB X) k) = oV (nxtN (μ.1 (r + 5)) (cB X) (k + 1)) := fun q => by
        have e : nxtN (μ.1 (r + 5)) (cB X) (k + 1) = nxtN (μ.1 (r + 5)) (cB X) k := by
          rw [nxtN]
          cases nxtN (μ.1 (r + 5)) (cB X) k with
          | none => exact if_neg q
          | some f => exact if_neg fun z => q ⟨z.1, z.2.1⟩
        rw [e]
      refine ⟨i, k, rfl, rfl, _, rfl, by omega, k, rfl, by omega, fun h2 => fin _ (keep fun q => h2 q.1), fun h2 => ⟨fun h3 => fin _ (keep fun q => ?_), fun h3 => ⟨fun h4 => fin _ ?_, fun h4 => ?_⟩⟩⟩
      · have h3 : μ.1 (r + 1) (51 + 2406 * i + (1958 + 3 * k)) ≤ 0 := h3
        rw [bk] at h3
        exact Int32.not_lt.mpr h3 q.2
      · have h2 : μ.1 (r + 5) k = 0 := Classical.not_not.mp h2
        have h3 : ¬ μ.1 (r + 1) (51 + 2406 * i + (1958 + 3 * k)) ≤ 0 := h3
        rw [bk] at h3
        have h4 : oV (nxtN (μ.1 (r + 5)) (cB X) k) = -1 := h4
        rw [nxtN]
        cases hq : nxtN (μ.1 (r + 5)) (cB X) k with
        | none =>
          show nI k = oV (if μ.1 (r + 5) k = 0 ∧ 0 < cB X k 0 then some k else none)
          rw [if_pos ⟨h2, Int32.not_le.mp h3⟩]
          rfl
        | some f =>
          rw [hq] at h4
          have := nxtN_lt _ _ _ _ hq
          exact absurd h4 (nI_ne_m1 (by omega))
      · have h2 : μ.1 (r + 5) k = 0 := Classical.not_not.mp h2
        have h3 : ¬ μ.1 (r + 1) (51 + 2406 * i + (1958 + 3 * k)) ≤ 0 := h3
        rw [bk] at h3
        have h4 : ¬ oV (nxtN (μ.1 (r + 5)) (cB X) k) = -1 := h4
        cases hq : nxtN (μ.1 (r + 5)) (cB X) k with
        | none => rw [hq] at h4; exact absurd rfl h4
        | some f =>
          have hf := nxtN_lt _ _ _ _ hq
          have bf := b0 f (by omega)
          have e : nxtN (μ.1 (r + 5)) (cB X) (k + 1) = if μ.1 (r + 5) k = 0 ∧ 0 < cB X k 0 ∧ cB X f 0 < cB X k 0 then some k else some f := by
            rw [nxtN, hq]
          refine ⟨i, f, rfl, rfl, _, rfl, by omega, fun h5 => fin _ ?_, fun h5 => fin _ ?_⟩
          · have h5 : μ.1 (r + 1) (51 + 2406 * i + (1958 + 3 * k)) ≤ μ.1 (r + 1) (51 + 2406 * i + (1958 + 3 * f)) := h5
            rw [bk, bf] at h5
            rw [e, if_neg fun z => Int32.not_lt.mpr h5 z.2.2]
          · have h5 : ¬ μ.1 (r + 1) (51 + 2406 * i + (1958 + 3 * k)) ≤ μ.1 (r + 1) (51 + 2406 * i + (1958 + 3 * f)) := h5
            rw [bk, bf] at h5
            rw [e, if_pos ⟨h2, Int32.not_le.mp h3, Int32.not_le.mp h5⟩]
            rfl
end
section
/-! THE REFERENCE moves an entity. -/
def vOK (V : Int32) : Prop := -3 ≤ V ∧ V ≤ 3
theorem vOK_k {V : Int32} (h : vOK V) : ∃ k, k < 7 ∧ V = nI k - 3 := by
  obtain ⟨h1, h2⟩ := h
  rw [Int32.le_iff_toInt_le] at h1 h2
  have a : (-3 : Int32).toInt = -3 := by decide
  have b : (3 : Int32).toInt = 3 := by decide
  rw [a] at h1
  rw [b] at h2
  refine ⟨(V.toInt + 3).toNat, by omega, ?_⟩
  apply Int32.toInt_inj.mp
  have c : ∀ k, k < 7 → (nI k - 3).toInt = (k : Int) - 3 := by decide +kernel
  rw [c _ (by omega)]
  omega
/-- where a coordinate goes, and its velocity -/
def mvI (v : Int32) : Int32 := if v < 0 then -v else if 31 < v then 62 - v else v
def mvP (p : Nat) (V : Int32) : Nat := (mvI (nI p + V)).toNatClampNeg
def mvW (p : Nat) (V : Int32) : Int32 := if 0 ≤ nI p + V ∧ nI p + V ≤ 31 then V else -V
theorem mv_all : ∀ p, p < 32 → ∀ k, k < 7 → mvI (nI p + (nI k - 3)) = nI (mvP p (nI k - 3)) ∧ mvP p (nI k - 3) < 32 ∧ (-3 ≤ mvW p (nI k - 3) ∧ mvW p (nI k - 3) ≤ 3) := by decide +kernel
theorem mv_ok {p : Nat} {V : Int32} (hp : p < 32) (hV : vOK V) : mvI (nI p + V) = nI (mvP p V) ∧ mvP p V < 32 ∧ vOK (mvW p V) := by
  obtain ⟨k, hk, rfl⟩ := vOK_k hV
  exact mv_all p hp k hk
/-- the state after a move along x (0) or y (1) -/
def mvS (n w : Nat) (V : Int32) : Nat := if w = 0 then n - prt n 0 + mvP (prt n 0) V else n - 32 * prt n 1 + 32 * mvP (prt n 1) V
theorem prt01 (n w : Nat) (hw : w < 2) : prt n w < 32 := by
  match w, hw with
  | 0, _ => simp only [prt]; omega
  | 1, _ => simp only [prt]; omega
theorem mvS_lt {n w : Nat} {V : Int32} (hn : n < 524288) (hw : w < 2) (hV : vOK V) : mvS n w V < 524288 := by
  have h0 : prt n 0 = n % 32 := rfl
  have h1 : prt n 1 = n / 32 % 32 := rfl
  have a := (mv_ok (prt01 n 0 (by omega)) hV).2.1
  have b := (mv_ok (prt01 n 1 (by omega)) hV).2.1
  unfold mvS
  split <;> omega
theorem mvS_eq {n w : Nat} {V : Int32} (hw : w < 2) : nI n + (nI (mvP (prt n w) V) - nI (prt n w)) * (if w = 0 then 1 else 32) = nI (mvS n w V) := by
  have h0 : prt n 0 = n % 32 := rfl
  have h1 : prt n 1 = n / 32 % 32 := rfl
  unfold mvS
  match w, hw with
  | 0, _ =>
    rw [if_pos rfl, if_pos rfl, Int32.mul_one]
    have e : nI n = nI (n - prt n 0) + nI (prt n 0) := by rw [nI_add]; congr 1; omega
    rw [← nI_add, e, Int32.add_assoc, Int32.add_comm (nI (prt n 0)), Int32.sub_add_cancel]
  | 1, _ =>
    rw [if_neg (by omega), if_neg (by omega)]
    have e : nI n = nI (n - 32 * prt n 1) + nI (prt n 1) * 32 := by
      show _ = _ + nI (prt n 1) * nI 32
      rw [nI_mul, nI_add]; congr 1; omega
    have e2 : nI (32 * mvP (prt n 1) V) = nI (mvP (prt n 1) V) * 32 := by
      show _ = _ * nI 32
      rw [nI_mul, Nat.mul_comm]
    rw [← nI_add, e2, e, Int32.add_assoc, ← Int32.add_mul, Int32.add_comm (nI (prt n 1)), Int32.sub_add_cancel]
def moL (r w a : Nat) (v x : Int32) : LC := [some (.inr (.inr (20, r))), none, some (.inl (nI w)), some (.inl (nI a)), some (.inl v), some (.inl x)]
def sp_X10_moveOne : SPc := fun As μ K => match As with
  | [.inr (.inr (20, r)), .inl e, .inl w'] => ∃ (j w n : Nat) (V : Int32), e = nI j ∧ w' = nI w ∧ j < 16 ∧ w < 2 ∧ μ.1 (r + 1) (3 + 3 * j) = nI n ∧ n < 524288 ∧ μ.1 (r + 1) (3 + 3 * j + 1 + w) = V ∧ vOK V ∧ K (.inl none) (rW μ r (upd (upd (μ.1 (r + 1)) (3 + 3 * j + 1 + w) (mvW (prt n w) V)) (3 + 3 * j) (nI (mvS n w V))))
  | _ => False
def ct_X10_moveOne : List (Nat × CI) := [(41, ci_X10_part), (49, ci_X10_in)]
def ci_X10_moveOne : CI := (yX10_moveOne, cX10_moveOne, 6, none, 3, (1, 0, 0, 22), 19, [], sp_X10_moveOne)
set_option maxRecDepth 100000 in
theorem ck_X10_moveOne : chkM ci_X10_moveOne RX10 co_X10_moveOne ct_X10_moveOne [] false false = true := by decide +kernel
set_option maxHeartbeats 4000000 in
set_option maxRecDepth 100000 in
theorem ms_X10_moveOne {g : GPT} {ot : OT} {l : Launch} (hl : l.stackTraces = false) : MS g ot l ci_X10_moveOne := by
  refine ms_of hl RX10 co_X10_moveOne ct_X10_moveOne [] false false [47,77,100] 88 ck_X10_moveOne (List.forall_mem_cons.mpr ⟨ms_X10_part hl, List.forall_mem_cons.mpr ⟨ms_X10_in hl, fun _ h => nomatch h⟩⟩) ?_
  intro As μ K h
  simp only [ci_X10_moveOne, sp_X10_moveOne] at h
  split at h
  case h_2 => exact h.elim
  rename_i r e w'
  obtain ⟨j, w, n, V, rfl, rfl, hj, hw, hn, hn2, hv, hV, h⟩ := h
  have hp := prt01 n w hw
  obtain ⟨m1, m2, m3⟩ := mv_ok hp hV
  generalize ha : 3 + 3 * j = a at *
  have ixa : nI 3 + nI 3 * nI j = nI a := by rw [nI_mul, nI_add, ha]
  have ixv : nI a + nI 1 + nI w = nI (a + 1 + w) := by rw [nI_add, nI_add]
  refine ⟨Nat.le_of_ble_eq_true rfl, fun m pc lc st μ' ce sl => (m = 3 ∧ pc = 47 ∧ lc = moL r w a (nI (prt n w) + V) (iB (¬ (0 ≤ nI (prt n w) + V ∧ nI (prt n w) + V ≤ 31))) ∧ st = [] ∧ μ = μ' ∧ ce = 0 ∧ sl = 0) ∨
    (m = 2 ∧ pc = 77 ∧ lc = moL r w a (mvI (nI (prt n w) + V)) (iB (¬ (0 ≤ nI (prt n w) + V ∧ nI (prt n w) + V ≤ 31))) ∧ st = [] ∧ μ = μ' ∧ ce = 0 ∧ sl = 0) ∨
    (m = 1 ∧ pc = 100 ∧ lc = moL r w a (mvI (nI (prt n w) + V)) (iB (¬ (0 ≤ nI (prt n w) + V ∧ nI (prt n w) + V ≤ 31))) ∧ st = [] ∧ μ' = rW μ r (upd (μ.1 (r + 1)) (a + 1 + w) (mvW (prt n w) V)) ∧ ce = 0 ∧ sl = 0), ?_, ?_⟩
  · have ent : ∀ x, x = iB (¬ (0 ≤ nI (prt n w) + V ∧ nI (prt n w) + V ≤ 31)) → subL (moL r w a (nI (prt n w) + V) (iB (¬ (0 ≤ nI (prt n w) + V ∧ nI (prt n w) + V ≤ 31)))) [some (.inr (.inr (20, r))), some (.inl (nI j)), some (.inl (nI w)), some (.inl (nI 3 + nI 3 * nI j)), some (.inl (nI (prt n w) + μ.1 (r + 1) (a + 1 + w))), some (.inl x)] := fun x hx =>
      ⟨rfl, rfl, by rw [ixa], by rw [hv], by rw [hx], trivial⟩
    refine ⟨a, ixa, by omega, n, w, hn, rfl, hn2, by omega, a + 1 + w, ?_, by omega, fun h1 => ?_, fun h1 => ?_⟩
    · show nI 3 + nI 3 * nI j + nI 1 + nI w = _
      rw [ixa, ixv]
    · have h1 : ¬ iB (0 ≤ nI (prt n w) + μ.1 (r + 1) (a + 1 + w) ∧ nI (prt n w) + μ.1 (r + 1) (a + 1 + w) ≤ 31) = 0 := h1
      rw [iB_ne0, hv] at h1
      exact ⟨3, moL r w a (nI (prt n w) + V) (iB (¬ (0 ≤ nI (prt n w) + V ∧ nI (prt n w) + V ≤ 31))), ent 0 (iB_0 fun q => q h1).symm, Or.inl ⟨rfl, rfl, rfl, rfl, rfl, rfl, rfl⟩⟩
    · have h1 : ¬ ¬ iB (0 ≤ nI (prt n w) + μ.1 (r + 1) (a + 1 + w) ∧ nI (prt n w) + μ.1 (r + 1) (a + 1 + w) ≤ 31) = 0 := h1
      rw [iB_ne0, hv] at h1
      exact ⟨3, moL r w a (nI (prt n w) + V) (iB (¬ (0 ≤ nI (prt n w) + V ∧ nI (prt n w) + V ≤ 31))), ent 1 (iB_1 h1).symm, Or.inl ⟨rfl, rfl, rfl, rfl, rfl, rfl, rfl⟩⟩
  · rintro m pc lc st μ' ce sl (⟨rfl, rfl, rfl, rfl, rfl, rfl, rfl⟩ | ⟨rfl, rfl, rfl, rfl, rfl, rfl, rfl⟩ | ⟨rfl, rfl, rfl, rfl, rfl, rfl, rfl⟩)
    · have nx : ∀ x, x = mvI (nI (prt n w) + V) → subL (moL r w a (mvI (nI (prt n w) + V)) (iB (¬ (0 ≤ nI (prt n w) + V ∧ nI (prt n w) + V ≤ 31)))) (moL r w a x (iB (¬ (0 ≤ nI (prt n w) + V ∧ nI (prt n w) + V ≤ 31)))) := fun x hx => ⟨rfl, rfl, rfl, by rw [hx], rfl, trivial⟩
      refine ⟨fun h1 => ⟨fun h2 => ⟨2, moL r w a (mvI (nI (prt n w) + V)) (iB (¬ (0 ≤ nI (prt n w) + V ∧ nI (prt n w) + V ≤ 31))), by omega, nx _ ?_, Or.inr (Or.inl ⟨rfl, rfl, rfl, rfl, rfl, rfl, rfl⟩)⟩, fun h2 => ⟨2, moL r w a (mvI (nI (prt n w) + V)) (iB (¬ (0 ≤ nI (prt n w) + V ∧ nI (prt n w) + V ≤ 31))), by omega, nx _ ?_, Or.inr (Or.inl ⟨rfl, rfl, rfl, rfl, rfl, rfl, rfl⟩)⟩⟩, fun h1 => ⟨2, moL r w a (mvI (nI (prt n w) + V)) (iB (¬ (0 ≤ nI (prt n w) + V ∧ nI (prt n w) + V ≤ 31))), by omega, nx _ ?_, Or.inr (Or.inl ⟨rfl, rfl, rfl, rfl, rfl, rfl, rfl⟩)⟩⟩
      · have h1 : 0 ≤ nI (prt n w) + V := h1
        have h2 : nI (prt n w) + V ≤ 31 := h2
        unfold mvI
        rw [if_neg (Int32.not_lt.mpr h1), if_neg (Int32.not_lt.mpr h2)]
      · have h1 : 0 ≤ nI (prt n w) + V := h1
        have h2 : ¬ nI (prt n w) + V ≤ 31 := h2
        unfold mvI
        rw [if_neg (Int32.not_lt.mpr h1), if_pos (Int32.not_le.mp h2)]
        rfl
      · have h1 : ¬ 0 ≤ nI (prt n w) + V := h1
        unfold mvI
        rw [if_pos (Int32.not_le.mp h1)]
    · refine ⟨a + 1 + w, ixv, by omega, fun h1 => ⟨a + 1 + w, ixv, by omega, 1, moL r w a (mvI (nI (prt n w) + V)) (iB (¬ (0 ≤ nI (prt n w) + V ∧ nI (prt n w) + V ≤ 31))), by omega, ⟨rfl, rfl, rfl, rfl, rfl, trivial⟩, Or.inr (Or.inr ⟨rfl, rfl, rfl, rfl, ?_, rfl, rfl⟩)⟩, fun h1 => ⟨a + 1 + w, ixv, by omega, 1, moL r w a (mvI (nI (prt n w) + V)) (iB (¬ (0 ≤ nI (prt n w) + V ∧ nI (prt n w) + V ≤ 31))), by omega, ⟨rfl, rfl, rfl, rfl, rfl, trivial⟩, Or.inr (Or.inr ⟨rfl, rfl, rfl, rfl, ?_, rfl, rfl⟩)⟩⟩
      · have h1 := (iB_eq0 _).mp h1
        rw [up2_rW, hv]
        have e : mvW (prt n w) V = V := if_pos (Classical.not_not.mp h1)
        have e2 : V * Int32.ofInt 1 = V := Int32.mul_one V
        rw [e, e2]
      · have h1 := (iB_ne0 _).mp h1
        rw [up2_rW, hv]
        have e : mvW (prt n w) V = -V := if_neg h1
        have e2 : V * Int32.ofInt (-1) = -V := by rw [iM1, Int32.mul_neg, Int32.mul_one]
        rw [e, e2]
    · have g0 : (rW μ r (upd (μ.1 (r + 1)) (a + 1 + w) (mvW (prt n w) V))).1 (r + 1) a = nI n := by rw [rW_at, upd_ne _ _ (by omega)]; exact hn
      have fin : ∀ x : Int32, x = (if w = 0 then 1 else 32) → K (.inl none) (up2 (rW μ r (upd (μ.1 (r + 1)) (a + 1 + w) (mvW (prt n w) V))).1 (r + 1) a ((rW μ r (upd (μ.1 (r + 1)) (a + 1 + w) (mvW (prt n w) V))).1 (r + 1) a + (mvI (nI (prt n w) + V) - nI (prt n w)) * x), (rW μ r (upd (μ.1 (r + 1)) (a + 1 + w) (mvW (prt n w) V))).2) := fun x hx => by
        rw [g0, m1, hx, mvS_eq hw, up2_rW, rW_rW, rW_at]
        exact h
      refine ⟨a, rfl, by omega, a, rfl, by omega, n, w, g0, rfl, hn2, by omega, fun h1 => ⟨a, rfl, by omega, fin 32 ?_⟩, fun h1 => ⟨a, rfl, by omega, fin 1 ?_⟩⟩
      · have h1 : ¬ nI w = nI 0 := h1
        rw [nI_eq_iff (by omega) (by omega)] at h1
        rw [if_neg h1]
      · have h1 : ¬ ¬ nI w = nI 0 := h1
        rw [nI_eq_iff (by omega) (by omega)] at h1
        rw [if_pos (Classical.not_not.mp h1)]
end
section
/-! THE ORDER of the entities. -/
def bef (B : Nat → Nat → Int32) (x y : Nat) : Prop := B y 0 < B x 0 ∨ (B x 0 = B y 0 ∧ x < y)
theorem ins_mem (B : Nat → Nat → Int32) (e x : Nat) : ∀ l, x ∈ ins B e l ↔ x = e ∨ x ∈ l
  | [] => by simp [ins]
  | y :: l => by
    unfold ins
    split
    · simp
    · rw [List.mem_cons, ins_mem B e x l, List.mem_cons]
      constructor
      · rintro (h | h | h)
        · exact Or.inr (Or.inl h)
        · exact Or.inl h
        · exact Or.inr (Or.inr h)
      · rintro (h | h | h)
        · exact Or.inr (Or.inl h)
        · exact Or.inl h
        · exact Or.inr (Or.inr h)
theorem ordN_mem (B : Nat → Nat → Int32) (x : Nat) : ∀ n, x ∈ ordN B n ↔ x < n ∧ 0 < B x 0
  | 0 => by simp [ordN]
  | n + 1 => by
    unfold ordN
    split
    · next h =>
      rw [ins_mem, ordN_mem B x n]
      constructor
      · rintro (rfl | ⟨h1, h2⟩)
        · exact ⟨by omega, h⟩
        · exact ⟨by omega, h2⟩
      · rintro ⟨h1, h2⟩
        by_cases q : x = n
        · exact Or.inl q
        · exact Or.inr ⟨by omega, h2⟩
    · next h =>
      rw [ordN_mem B x n]
      constructor
      · rintro ⟨h1, h2⟩
        exact ⟨by omega, h2⟩
      · rintro ⟨h1, h2⟩
        refine ⟨?_, h2⟩
        by_cases q : x = n
        · rw [q] at h2
          exact absurd h2 h
        · omega
theorem ins_pw (B : Nat → Nat → Int32) (e : Nat) : ∀ l, l.Pairwise (bef B) → (∀ x ∈ l, x < e) → (ins B e l).Pairwise (bef B)
  | [], _, _ => List.pairwise_singleton _ _
  | y :: l, h, g => by
    obtain ⟨h1, h2⟩ := List.pairwise_cons.mp h
    unfold ins
    split
    · next q =>
      refine List.pairwise_cons.mpr ⟨fun z hz => ?_, h⟩
      rcases List.mem_cons.mp hz with rfl | hz
      · exact Or.inl q
      · rcases h1 z hz with w | ⟨w, _⟩
        · exact Or.inl (Int32.lt_trans w q)
        · rw [w] at q
          exact Or.inl q
    · next q =>
      refine List.pairwise_cons.mpr ⟨fun z hz => ?_, ins_pw B e l h2 fun x hx => g x (List.mem_cons_of_mem _ hx)⟩
      rcases (ins_mem B e z l).mp hz with rfl | hz
      · have q2 : B z 0 ≤ B y 0 := Int32.not_lt.mp q
        by_cases c : B y 0 = B z 0
        · exact Or.inr ⟨c, g y List.mem_cons_self⟩
        · exact Or.inl (Int32.lt_of_le_of_ne q2 fun w => c w.symm)
      · exact h1 z hz
theorem ordN_pw (B : Nat → Nat → Int32) : ∀ n, (ordN B n).Pairwise (bef B)
  | 0 => List.Pairwise.nil
  | n + 1 => by
    unfold ordN
    split
    · exact ins_pw B n _ (ordN_pw B n) fun x hx => ((ordN_mem B x n).mp hx).1
    · exact ordN_pw B n
theorem bef_irr {B : Nat → Nat → Int32} {x : Nat} : ¬ bef B x x := fun h => h.elim (i_irr _) fun q => Nat.lt_irrefl _ q.2
theorem ordN_nd (B : Nat → Nat → Int32) (n : Nat) : (ordN B n).Nodup := (ordN_pw B n).imp fun h q => by
  rw [q] at h
  exact bef_irr h
theorem bef_tr {B : Nat → Nat → Int32} {x y z : Nat} (h : bef B x y) (g : bef B y z) : bef B x z := by
  rcases h with h | ⟨h, h2⟩ <;> rcases g with g | ⟨g, g2⟩
  · exact Or.inl (Int32.lt_trans g h)
  · rw [g] at h
    exact Or.inl h
  · rw [← h] at g
    exact Or.inl g
  · exact Or.inr ⟨h.trans g, by omega⟩
/-- what the selection finds -/
def cand (T : Nat → Int32) (B : Nat → Nat → Int32) (e : Nat) : Prop := T e = 0 ∧ 0 < B e 0
theorem nxtN_spec (T : Nat → Int32) (B : Nat → Nat → Int32) : ∀ n, match nxtN T B n with
    | none => ∀ e, e < n → ¬ cand T B e
    | some f => f < n ∧ cand T B f ∧ ∀ e, e < n → cand T B e → ¬ e = f → bef B f e
  | 0 => fun e he => absurd he (Nat.not_lt_zero _)
  | n + 1 => by
    have ih := nxtN_spec T B n
    rw [nxtN]
    cases hq : nxtN T B n with
    | none =>
      rw [hq] at ih
      simp only at ih ⊢
      by_cases c : T n = 0 ∧ 0 < B n 0
      · rw [if_pos c]
        refine ⟨by omega, c, fun e he hc hne => ?_⟩
        by_cases q : e = n
        · exact absurd q hne
        · exact absurd hc (ih e (by omega))
      · rw [if_neg c]
        intro e he
        by_cases q : e = n
        · rw [q]; exact c
        · exact ih e (by omega)
    | some f =>
      rw [hq] at ih
      simp only at ih ⊢
      obtain ⟨h1, h2, h3⟩ := ih
      by_cases c : T n = 0 ∧ 0 < B n 0 ∧ B f 0 < B n 0
      · rw [if_pos c]
        refine ⟨by omega, ⟨c.1, c.2.1⟩, fun e he hc hne => ?_⟩
        by_cases q : e = f
        · rw [q]; exact Or.inl c.2.2
        · rcases h3 e (by omega) hc q with w | ⟨w, _⟩
          · exact Or.inl (Int32.lt_trans w c.2.2)
          · refine Or.inl ?_
            rw [← w]
            exact c.2.2
      · rw [if_neg c]
        refine ⟨by omega, h2, fun e he hc hne => ?_⟩
        by_cases q : e = n
        · subst q
          have q2 : B e 0 ≤ B f 0 := Int32.not_lt.mp fun w => c ⟨hc.1, hc.2, w⟩
          by_cases d : B f 0 = B e 0
          · exact Or.inr ⟨d, h1⟩
          · exact Or.inl (Int32.lt_of_le_of_ne q2 fun w => d w.symm)
        · exact h3 e (by omega) hc hne
/-- with a prefix of the order tried, the next is the order's next -/
theorem nxtN_of {T : Nat → Int32} {B : Nat → Nat → Int32} {l : List Nat} (hp : l.Pairwise (bef B)) (hm : ∀ e, e ∈ l ↔ e < 16 ∧ cand T B e) : nxtN T B 16 = l.head? := by
  have h := nxtN_spec T B 16
  cases l with
  | nil =>
    cases hq : nxtN T B 16 with
    | none => rfl
    | some f =>
      rw [hq] at h
      simp only at h
      exact absurd ((hm f).mpr ⟨h.1, h.2.1⟩) List.not_mem_nil
  | cons x l =>
    obtain ⟨hx1, hx2⟩ := (hm x).mp List.mem_cons_self
    cases hq : nxtN T B 16 with
    | none =>
      rw [hq] at h
      simp only at h
      exact absurd hx2 (h x hx1)
    | some f =>
      rw [hq] at h
      simp only at h
      by_cases q : x = f
      · rw [q]; rfl
      · exfalso
        have a := h.2.2 x hx1 hx2 q
        have hf := (hm f).mpr ⟨h.1, h.2.1⟩
        rcases List.mem_cons.mp hf with w | w
        · exact q w.symm
        · exact bef_irr (bef_tr a ((List.pairwise_cons.mp hp).1 f w))
end
section
/-! THE REFERENCE sends a packet. -/
def tW (μ : MM) (r : Nat) (T : Nat → Int32) : MM := (stF μ.1 (r + 5) T, μ.2)
theorem tW_at (μ : MM) (r : Nat) (T : Nat → Int32) : (tW μ r T).1 (r + 5) = T := stF_at _ _ _
theorem tW_1 (μ : MM) (r : Nat) (T : Nat → Int32) : (tW μ r T).1 (r + 1) = μ.1 (r + 1) := stF_ne _ _ (by omega)
theorem tW_self (μ : MM) (r : Nat) : tW μ r (μ.1 (r + 5)) = μ := by
  unfold tW
  rw [stF_self]
theorem stF_comm (F : Nat → Nat → Int32) {a b : Nat} (f g : Nat → Int32) (h : ¬ a = b) : stF (stF F a f) b g = stF (stF F b g) a f := by
  funext z
  unfold stF
  by_cases h1 : z = b
  · by_cases h2 : z = a
    · exact absurd (h2.symm.trans h1) h
    · rw [if_pos h1, if_neg h2, if_pos h1]
  · by_cases h2 : z = a
    · rw [if_neg h1, if_pos h2, if_pos h2]
    · rw [if_neg h1, if_neg h2, if_neg h2, if_neg h1]
theorem tW_tW (μ : MM) (r : Nat) (T U : Nat → Int32) : tW (tW μ r T) r U = tW μ r U := by
  unfold tW
  rw [stF_stF]
theorem tW_rW (μ : MM) (r : Nat) (T f : Nat → Int32) : tW (rW μ r f) r T = rW (tW μ r T) r f := by
  show (stF (stF μ.1 (r + 1) f) (r + 5) T, μ.2) = (stF (stF μ.1 (r + 5) T) (r + 1) f, μ.2)
  rw [stF_comm _ _ _ (by omega)]
theorem rt_5 (μ : MM) (r : Nat) (T f : Nat → Int32) : (rW (tW μ r T) r f).1 (r + 5) = T := by
  rw [rW_ne _ _ _ (by omega), tW_at]
theorem up2_tW (μ : MM) (r j : Nat) (T f : Nat → Int32) (x : Int32) : ((up2 (rW (tW μ r T) r f).1 (r + 5) j x, (rW (tW μ r T) r f).2) : MM) = rW (tW μ r (upd T j x)) r f := by
  rw [up2_stF, rt_5]
  show tW (rW (tW μ r T) r f) r (upd T j x) = _
  rw [tW_rW, tW_tW]
/-- what is known of the state of a sending: the packet's bytes and entries, the client's changed priorities, the entities gone through -/
def SQ (E : Nat → Nat → Int32) (X : CS) (P : List Nat) (Q : Int32 × List EN × CS) : Prop := Q = P.foldl (putQ E) (4, [], X) ∧ Q.2.1.length ≤ P.length ∧ (Q.2.1 = [] → Q.2.2 = X) ∧ cP Q.2.2 = cP X ∧ (∀ e, ¬ e ∈ P → cB Q.2.2 e 0 = cB X e 0) ∧ (∀ e k, ¬ k = 0 → cB Q.2.2 e k = cB X e k)
theorem SQ_0 (E : Nat → Nat → Int32) (X : CS) : SQ E X [] (4, [], X) := ⟨rfl, Nat.le_refl _, fun _ => rfl, rfl, fun _ _ => rfl, fun _ _ _ => rfl⟩
theorem SQ_S {E : Nat → Nat → Int32} {X : CS} {P : List Nat} {Q : Int32 × List EN × CS} (h : SQ E X P Q) (e : Nat) : SQ E X (P ++ [e]) (putQ E Q e) := by
  obtain ⟨h1, h2, h3, h4, h5, h6⟩ := h
  refine ⟨by rw [List.foldl_append, ← h1]; rfl, ?_, ?_, ?_, fun x hx => ?_, fun x k hk => ?_⟩
  · rw [List.length_append]
    unfold putQ
    split
    · show (Q.2.1 ++ [_]).length ≤ _
      rw [List.length_append]
      exact Nat.add_le_add_right h2 1
    · exact Nat.le_trans h2 (Nat.le_add_right _ _)
  · unfold putQ
    split
    · intro q
      exact absurd q (by simp)
    · exact h3
  · unfold putQ
    split
    · exact h4
    · exact h4
  · have hx1 : ¬ x ∈ P := fun q => hx (List.mem_append_left _ q)
    have hx2 : ¬ x = e := fun q => hx (List.mem_append_right _ (List.mem_singleton.mpr q))
    unfold putQ
    split
    · show up2 (cB Q.2.2) e 0 0 x 0 = _
      unfold up2
      rw [if_neg fun q => hx2 q.1]
      exact h5 x hx1
    · exact h5 x hx1
  · unfold putQ
    split
    · show up2 (cB Q.2.2) e 0 0 x k = _
      unfold up2
      rw [if_neg fun q => hk q.2]
      exact h6 x k hk
    · exact h6 x k hk
end
section
def seL (r i a : Nat) (x : Int32) : LC := [some (.inr (.inr (20, r))), some (.inl (nI i)), some (.inl (nI a)), some (.inl x), none]
/-- the cells while a packet is written -/
def SC (f g : Nat → Int32) (i a : Nat) (Q : Int32 × List EN × CS) : Prop := RC g i Q.2.2 ∧ (∀ z, z < 51 + 2406 * i ∨ 51 + 2406 * i + 2406 ≤ z → g z = f z) ∧ g (a + 1) = Q.1 ∧ g (a + 5) = nI Q.2.1.length ∧ ∀ (j : Nat) (en : EN), Q.2.1[j]? = some en → ∀ k, k < 5 → g (a + 6 + 5 * j + k) = en k
theorem bef_same {B C : Nat → Nat → Int32} {x y : Nat} (hx : C x 0 = B x 0) (hy : C y 0 = B y 0) (h : bef B x y) : bef C x y := by
  unfold bef
  rw [hx, hy]
  exact h
theorem nxt_after {T : Nat → Int32} {B C : Nat → Nat → Int32} {P l : List Nat} (ho : ordN B 16 = P ++ l) (hC : ∀ e, ¬ e ∈ P → C e 0 = B e 0) (hT : ∀ e, e < 16 → (T e = 0 ↔ ¬ e ∈ P)) : nxtN T C 16 = l.head? := by
  have pw := ordN_pw B 16
  have nd := ordN_nd B 16
  rw [ho] at pw nd
  obtain ⟨p1, p2, p3⟩ := List.pairwise_append.mp pw
  obtain ⟨n1, n2, n3⟩ := List.nodup_append.mp nd
  have out : ∀ e, e ∈ l → ¬ e ∈ P := fun e he hp => n3 e hp e he rfl
  refine nxtN_of (p2.imp_of_mem fun hx hy h => bef_same (hC _ (out _ hx)) (hC _ (out _ hy)) h) fun e => ?_
  constructor
  · intro he
    have h1 : e ∈ ordN B 16 := by rw [ho]; exact List.mem_append_right _ he
    obtain ⟨h2, h3⟩ := (ordN_mem B e 16).mp h1
    refine ⟨h2, (hT e h2).mpr (out e he), ?_⟩
    rw [hC e (out e he)]
    exact h3
  · rintro ⟨h2, h3, h4⟩
    have h5 := (hT e h2).mp h3
    rw [hC e h5] at h4
    have h1 := (ordN_mem B e 16).mpr ⟨h2, h4⟩
    rw [ho] at h1
    exact (List.mem_append.mp h1).resolve_left h5
def sp_X10_send : SPc := fun As μ K => match As with
  | [.inr (.inr (20, r)), .inl c] => ∃ (i : Nat) (X : CS) (E : Nat → Nat → Int32), c = nI i ∧ i < 3 ∧ RC (μ.1 (r + 1)) i X ∧ (∀ e, e < 16 → μ.1 (r + 1) (3 + 3 * e) = E e 0 ∧ sOK (E e 0)) ∧ (∀ e, e < 16 → sOK (cB X e 2)) ∧ (cP X).length ≤ 21 ∧ ∀ T f', RC f' i (snd1 (μ.1 (r + 1) 0) (μ.1 (r + 1) 1) E X) → (∀ k, k < 51 + 2406 * i ∨ 51 + 2406 * i + 2406 ≤ k → f' k = μ.1 (r + 1) k) → K (.inl none) (rW (tW μ r T) r f')
  | _ => False
def ct_X10_send : List (Nat × CI) := [(80, ci_X10_of), (125, ci_X10_packetCell), (153, ci_X10_nextByPriority), (156, ci_X10_priceOf), (159, ci_X10_putEntry), (83, ci_X10_base), (162, ci_X10_launch)]
def ci_X10_send : CI := (yX10_send, cX10_send, 5, none, 2, (5, 0, 0, 115), 19, [], sp_X10_send)
set_option maxRecDepth 100000 in
theorem ck_X10_send : chkM ci_X10_send RX10 co_X10_send ct_X10_send [] false false = true := by decide +kernel
set_option maxHeartbeats 4000000 in
set_option maxRecDepth 100000 in
theorem ms_X10_send {g : GPT} {ot : OT} {l : Launch} (hl : l.stackTraces = false) : MS g ot l ci_X10_send := by
  refine ms_of hl RX10 co_X10_send ct_X10_send [] false false [15,58,70,155] 129 ck_X10_send (List.forall_mem_cons.mpr ⟨ms_X10_of hl, List.forall_mem_cons.mpr ⟨ms_X10_packetCell hl, List.forall_mem_cons.mpr ⟨ms_X10_nextByPriority hl, List.forall_mem_cons.mpr ⟨ms_X10_priceOf hl, List.forall_mem_cons.mpr ⟨ms_X10_putEntry hl, List.forall_mem_cons.mpr ⟨ms_X10_base hl, List.forall_mem_cons.mpr ⟨ms_X10_launch hl, fun _ h => nomatch h⟩⟩⟩⟩⟩⟩⟩) ?_
  intro As μ K h
  simp only [ci_X10_send, sp_X10_send] at h
  split at h
  case h_2 => exact h.elim
  rename_i r c
  obtain ⟨i, X, E, rfl, hi, hX, hE, hB, hl, h⟩ := h
  have c65 : μ.1 (r + 1) (51 + 2406 * i + 65) = nI (cP X).length := hX.2.2.1.1
  generalize ha : 51 + 2406 * i + (66 + 86 * (cP X).length) = a at *
  have nd := ordN_nd (cB X) 16
  refine ⟨Nat.le_of_ble_eq_true rfl, fun m pc lc st μ' ce sl => (∃ k T, k ≤ 16 ∧ (∀ e, e < k → T e = 0) ∧ m = 100 + (16 - k) ∧ pc = 15 ∧ lc = seL r i a (nI k) ∧ st = [] ∧ μ' = tW μ r T ∧ ce = 0 ∧ sl = 0) ∨
    (∃ P l Q T g, ordN (cB X) 16 = P ++ l ∧ SQ E X P Q ∧ SC (μ.1 (r + 1)) g i a Q ∧ (∀ e, e < 16 → (T e = 0 ↔ ¬ e ∈ P)) ∧ m = 3 * l.length ∧ pc = 58 ∧ lc = seL r i a (oV l.head?) ∧ st = [] ∧ μ' = rW (tW μ r T) r g ∧ ce = 0 ∧ sl = 0) ∨
    (∃ P e l Q T g, ordN (cB X) 16 = P ++ e :: l ∧ SQ E X P Q ∧ SC (μ.1 (r + 1)) g i a Q ∧ (∀ x, x < 16 → (T x = 0 ↔ ¬ x ∈ P ++ [e])) ∧ m = 3 * l.length + 2 ∧ pc = 70 ∧ lc = seL r i a (nI e) ∧ st = [] ∧ μ' = rW (tW μ r T) r g ∧ ce = 0 ∧ sl = 0) ∨
    (∃ P l Q T g, ordN (cB X) 16 = P ++ l ∧ SQ E X P Q ∧ SC (μ.1 (r + 1)) g i a Q ∧ (∀ e, e < 16 → (T e = 0 ↔ ¬ e ∈ P)) ∧ m = 3 * l.length + 1 ∧ pc = 155 ∧ lc = [some (.inr (.inr (20, r))), some (.inl (nI i)), some (.inl (nI a)), none, none] ∧ st = [] ∧ μ' = rW (tW μ r T) r g ∧ ce = 0 ∧ sl = 0), ?_, ?_⟩
  · refine ⟨i, 65, rfl, rfl, by omega, i, (cP X).length, rfl, c65, 100 + (16 - 0), seL r i a (nI 0), ⟨rfl, rfl, ?_, rfl, trivial⟩, Or.inl ⟨0, μ.1 (r + 5), Nat.zero_le _, fun e he => absurd he (Nat.not_lt_zero _), rfl, rfl, rfl, rfl, (tW_self μ r).symm, rfl, rfl⟩⟩
    rw [ha]
  · have olen : (ordN (cB X) 16).length ≤ 16 := by
      have hs : ∀ (l : List Nat) (n : Nat), l.Nodup → (∀ x ∈ l, x < n) → l.length ≤ n := fun l n => by
        induction n generalizing l with
        | zero =>
          intro _ h
          cases l with
          | nil => exact Nat.le_refl _
          | cons x l => exact absurd (h x List.mem_cons_self) (Nat.not_lt_zero _)
        | succ n ih =>
          intro h1 h2
          have h3 := ih (l.erase n) (h1.erase n) fun x hx => by
            have hx2 := List.mem_of_mem_erase hx
            have := h2 x hx2
            have h4 : x ≠ n := fun q => by
              rw [q] at hx
              exact (List.Nodup.not_mem_erase h1) hx
            omega
          have h5 : l.length ≤ (l.erase n).length + 1 := by
            by_cases q : n ∈ l
            · rw [List.length_erase_of_mem q]; omega
            · rw [List.erase_of_not_mem q]; omega
          omega
      exact hs _ 16 nd fun x hx => ((ordN_mem (cB X) x 16).mp hx).1
    rintro m pc lc st μ' ce sl (⟨k, T, hk, hT, rfl, rfl, rfl, rfl, rfl, rfl, rfl⟩ | ⟨P, l, Q, T, g, ho, hQ, hg, hT, rfl, rfl, rfl, rfl, rfl, rfl, rfl⟩ | ⟨P, e, l, Q, T, g, ho, hQ, hg, hT, rfl, rfl, rfl, rfl, rfl, rfl, rfl⟩ | ⟨P, l, Q, T, g, ho, hQ, hg, hT, rfl, rfl, rfl, rfl, rfl, rfl, rfl⟩)
    · refine ⟨fun h1 => ?_, fun h1 => ?_⟩
      · simp only [icP, ifP, iL, iM1] at h1
        try simp only [z_nI] at h1
        try simp only [nI_add, nI_mul] at h1
        first | rw [nI_le_iff (by omega) (by omega)] at h1 | rw [nI_lt_iff (by omega) (by omega)] at h1 | rw [nI_eq_iff (by omega) (by omega)] at h1
        obtain rfl : k = 16 := by omega
        have t1 : (tW μ r T).1 (r + 1) = μ.1 (r + 1) := tW_1 _ _ _
        have mem : ((up2 (up2 (tW μ r T).1 (r + 1) (a + 1) (Int32.ofInt 4)) (r + 1) (a + 5) (Int32.ofInt 0), (tW μ r T).2) : MM) = rW (tW μ r T) r (upd (upd (μ.1 (r + 1)) (a + 1) 4) (a + 5) 0) := by
          simp only [up2_stF, stF_stF, stF_at, t1]
          rfl
        have hR : RC (upd (upd (μ.1 (r + 1)) (a + 1) 4) (a + 5) 0) i X := by
          obtain ⟨h1, h2, h3, h4, h5⟩ := hX
          have kp : ∀ z, (z < a ∨ a + 86 ≤ z) → upd (upd (μ.1 (r + 1)) (a + 1) 4) (a + 5) 0 z = μ.1 (r + 1) z := fun z hz => by
            rw [upd_ne _ _ (by omega), upd_ne _ _ (by omega)]
          refine ⟨RS.keep h1 fun z z1 z2 => kp z (by omega), RA.keep h2 fun z z1 z2 => kp z (by omega), ⟨by rw [kp _ (by omega)]; exact h3.1, h3.2.1, fun j p hp => ?_⟩, RB.keep h4 fun z z1 z2 => kp z (by omega), RD.keep h5 fun z z1 z2 => kp z (by omega)⟩
          have hj : j < (cP X).length := (List.getElem?_eq_some_iff.mp hp).1
          exact (h3.2.2 j p hp).keep fun z z1 z2 => kp z (by omega)
        refine ⟨_, nI_add _ 1, by omega, _, nI_add _ 5, by omega, i, X, rfl, hi, ?_, 3 * (ordN (cB X) 16).length, seL r i a (oV (ordN (cB X) 16).head?), by omega, ⟨rfl, rfl, rfl, ?_, trivial⟩, Or.inr (Or.inl ⟨[], ordN (cB X) 16, (4, [], X), T, _, rfl, SQ_0 E X, ⟨hR, fun z hz => ?_, ?_, ?_, fun j en hj => ?_⟩, fun e he => ?_, rfl, rfl, rfl, rfl, mem, rfl, rfl⟩)⟩
        · show RC ((up2 (up2 (tW μ r T).1 (r + 1) (a + 1) (Int32.ofInt 4)) (r + 1) (a + 5) (Int32.ofInt 0)) (r + 1)) i X
          have := congrArg (fun m : MM => m.1 (r + 1)) mem
          simp only [rW_at] at this
          rw [this]
          exact hR
        · have e5 : (up2 (up2 (tW μ r T).1 (r + 1) (a + 1) (Int32.ofInt 4)) (r + 1) (a + 5) (Int32.ofInt 0)) (r + 5) = T := by
            have := congrArg (fun m : MM => m.1 (r + 5)) mem
            simp only [rt_5] at this
            exact this
          show (some (.inl (oV (nxtN ((up2 (up2 (tW μ r T).1 (r + 1) (a + 1) (Int32.ofInt 4)) (r + 1) (a + 5) (Int32.ofInt 0)) (r + 5)) (cB X) 16))) : Option TV) = _
          rw [e5, nxt_after (P := []) (l := ordN (cB X) 16) (B := cB X) rfl (fun _ _ => rfl) fun e he => ⟨fun _ => List.not_mem_nil, fun _ => hT e he⟩]
        · rw [upd_ne _ _ (by omega), upd_ne _ _ (by omega)]
        · rw [upd_ne _ _ (by omega), upd_eq]
        · rw [upd_eq]; rfl
        · cases hj
        · exact ⟨fun _ => List.not_mem_nil, fun _ => hT e he⟩
      · simp only [icP, ifP, iL, iM1] at h1
        try simp only [z_nI] at h1
        try simp only [nI_add, nI_mul] at h1
        first | rw [nI_le_iff (by omega) (by omega)] at h1 | rw [nI_lt_iff (by omega) (by omega)] at h1 | rw [nI_eq_iff (by omega) (by omega)] at h1
        refine ⟨k, rfl, by omega, Or.inl rfl, 100 + (16 - (k + 1)), seL r i a (nI (k + 1)), by omega, ⟨rfl, rfl, rfl, inc_tv k, trivial⟩, Or.inl ⟨k + 1, upd T k 0, by omega, fun e he => ?_, rfl, rfl, rfl, rfl, ?_, rfl, rfl⟩⟩
        · by_cases q : e = k
          · rw [q, upd_eq]
          · rw [upd_ne _ _ q]; exact hT e (by omega)
        · show ((up2 (tW μ r T).1 (r + 5) k (Int32.ofInt 0), (tW μ r T).2) : MM) = _
          rw [up2_stF, tW_at]
          show tW (tW μ r T) r (upd T k (Int32.ofInt 0)) = _
          rw [tW_tW]
          rfl
    · have c5 : (rW (tW μ r T) r g).1 (r + 1) (a + 5) = nI Q.2.1.length := by rw [rW_at]; exact hg.2.2.2.1
      have plen : P.length + l.length ≤ 16 := by
        rw [ho, List.length_append] at olen
        exact olen
      have qlen := hQ.2.1
      cases l with
      | nil =>
        refine ⟨fun _ => ?_, fun h1 => absurd rfl h1⟩
        have hP : ordN (cB X) 16 = P := by rw [ho, List.append_nil]
        have hq : sndQ E X = Q := by
          unfold sndQ
          rw [hP]
          exact hQ.1.symm
        refine ⟨a + 5, nI_add _ 5, by omega, fun h1 => ?_, fun h1 => ?_⟩
        · simp only [ifP, c5, z_nI] at h1
          rw [nI_le_iff (by omega) (by omega)] at h1
          have q0 : Q.2.1 = [] := List.length_eq_zero_iff.mp (by omega)
          refine h T g ?_ hg.2.1
          unfold snd1
          rw [hq, if_pos q0, ← hQ.2.2.1 q0]
          exact hg.1
        · simp only [ifP, c5, z_nI] at h1
          rw [nI_le_iff (by omega) (by omega)] at h1
          have q0 : ¬ Q.2.1 = [] := fun q => by
            rw [q] at h1
            exact h1 (Nat.le_refl _)
          refine ⟨i, a, Q.2.2, Q.1, Q.2.1, rfl, rfl, hi, by rw [rW_at]; exact hg.1, by rw [hQ.2.2.2.1]; exact ha.symm, by rw [hQ.2.2.2.1]; exact hl, by rw [rW_at]; exact hg.2.2.1, c5, by omega, by rw [rW_at]; exact hg.2.2.2.2, fun f' hf hof => ?_⟩
          show K _ _
          rw [rW_rW]
          rw [rW_at] at hf hof
          refine h T f' ?_ fun z hz => (hof z hz).trans (hg.2.1 z hz)
          rw [hg.2.1 0 (by omega), hg.2.1 1 (by omega)] at hf
          unfold snd1
          rw [hq, if_neg q0]
          exact hf
      | cons e l =>
        have he : e < 16 := ((ordN_mem (cB X) e 16).mp (by rw [ho]; exact List.mem_append_right _ List.mem_cons_self)).1
        refine ⟨fun h1 => absurd h1 (nI_ne_m1 (by omega)), fun h1 => ⟨e, rfl, he, Or.inr rfl, 3 * l.length + 2, seL r i a (nI e), ?_, ⟨rfl, rfl, rfl, rfl, trivial⟩, Or.inr (Or.inr (Or.inl ⟨P, e, l, Q, upd T e 1, g, ho, hQ, hg, fun x hx => ?_, rfl, rfl, rfl, rfl, up2_tW μ r e T g _, rfl, rfl⟩))⟩⟩
        · rw [List.length_cons]; omega
        · by_cases q : x = e
          · subst q
            rw [upd_eq]
            refine ⟨fun w => absurd w (by decide), fun w => absurd (List.mem_append_right _ List.mem_cons_self) w⟩
          · rw [upd_ne _ _ q, hT x hx]
            constructor
            · intro w z
              rcases List.mem_append.mp z with z | z
              · exact w z
              · exact q (List.mem_singleton.mp z)
            · exact fun w z => w (List.mem_append_left _ z)
    · have c5 : (rW (tW μ r T) r g).1 (r + 1) (a + 5) = nI Q.2.1.length := by rw [rW_at]; exact hg.2.2.2.1
      have c1 : (rW (tW μ r T) r g).1 (r + 1) (a + 1) = Q.1 := by rw [rW_at]; exact hg.2.2.1
      have plen : P.length + (l.length + 1) ≤ 16 := by
        rw [ho, List.length_append] at olen
        exact olen
      have qlen := hQ.2.1
      have he : e < 16 := ((ordN_mem (cB X) e 16).mp (by rw [ho]; exact List.mem_append_right _ List.mem_cons_self)).1
      have hEe : (rW (tW μ r T) r g).1 (r + 1) (3 + 3 * e) = E e 0 ∧ sOK (E e 0) := by
        rw [rW_at, hg.2.1 _ (by omega)]
        exact hE e he
      have hBe : sOK (cB Q.2.2 e 2) := by
        rw [hQ.2.2.2.2.2 e 2 (by omega)]
        exact hB e he
      have s4 : (rW (tW μ r T) r g).1 (r + 1) (51 + 2406 * i + 4) = cS Q.2.2 4 := by rw [rW_at]; exact hg.1.1 4 (by omega)
      have ho' : ordN (cB X) 16 = (P ++ [e]) ++ l := by rw [ho, List.append_assoc]; rfl
      have hQ' := SQ_S hQ e
      refine ⟨i, e, Q.2.2, E, rfl, rfl, hi, he, by rw [rW_at]; exact hg.1, hEe, hBe, a + 1, nI_add _ 1, by omega, i, 4, rfl, rfl, by omega, fun h1 => ?_, fun h1 => ?_⟩
      · have h1 : (rW (tW μ r T) r g).1 (r + 1) (51 + 2406 * i + 4) < (rW (tW μ r T) r g).1 (r + 1) (a + 1) + nI (prc Q.2.2 E e) := h1
        rw [s4, c1] at h1
        have e1 : putQ E Q e = Q := if_neg (Int32.not_le.mpr h1)
        rw [e1] at hQ'
        exact ⟨3 * l.length + 1, [some (.inr (.inr (20, r))), some (.inl (nI i)), some (.inl (nI a)), none, none], by omega, ⟨rfl, rfl, rfl, trivial⟩, Or.inr (Or.inr (Or.inr ⟨P ++ [e], l, Q, T, g, ho', hQ', hg, hT, rfl, rfl, rfl, rfl, rfl, rfl, rfl⟩))⟩
      · have h1 : ¬ (rW (tW μ r T) r g).1 (r + 1) (51 + 2406 * i + 4) < (rW (tW μ r T) r g).1 (r + 1) (a + 1) + nI (prc Q.2.2 E e) := h1
        rw [s4, c1] at h1
        have e1 : putQ E Q e = (Q.1 + nI (prc Q.2.2 E e), Q.2.1 ++ [mkE Q.2.2 E e], setB Q.2.2 e 0 0) := if_pos (Int32.not_lt.mp h1)
        have ix : nI a + nI 6 + nI 5 * (rW (tW μ r T) r g).1 (r + 1) (a + 5) = nI (a + 6 + 5 * Q.2.1.length) := by
          rw [c5, nI_mul, nI_add, nI_add]
        refine ⟨a + 5, nI_add _ 5, by omega, i, a + 6 + 5 * Q.2.1.length, e, Q.2.2, E, rfl, ix, rfl, hi, he, by rw [rW_at]; exact hg.1, by omega, hEe, hBe, a + 1, nI_add _ 1, by omega, a + 1, nI_add _ 1, by omega, a + 5, nI_add _ 5, by omega, a + 5, nI_add _ 5, by omega, i, e, rfl, rfl, 51 + 2406 * i + (1958 + 3 * e), rfl, by omega, ?_⟩
        rw [rW_rW, rW_at]
        have mem : ((up2 (up2 (up2 (rW (tW μ r T) r (putF g (a + 6 + 5 * Q.2.1.length) (mkE Q.2.2 E e) 5)).1 (r + 1) (a + 1) ((rW (tW μ r T) r (putF g (a + 6 + 5 * Q.2.1.length) (mkE Q.2.2 E e) 5)).1 (r + 1) (a + 1) + nI (prc Q.2.2 E e))) (r + 1) (a + 5) ((up2 (rW (tW μ r T) r (putF g (a + 6 + 5 * Q.2.1.length) (mkE Q.2.2 E e) 5)).1 (r + 1) (a + 1) ((rW (tW μ r T) r (putF g (a + 6 + 5 * Q.2.1.length) (mkE Q.2.2 E e) 5)).1 (r + 1) (a + 1) + nI (prc Q.2.2 E e))) (r + 1) (a + 5) + Int32.ofInt 1)) (r + 1) (51 + 2406 * i + (1958 + 3 * e)) (Int32.ofInt 0), (rW (tW μ r T) r (putF g (a + 6 + 5 * Q.2.1.length) (mkE Q.2.2 E e) 5)).2) : MM) = rW (tW μ r T) r (upd (upd (upd (putF g (a + 6 + 5 * Q.2.1.length) (mkE Q.2.2 E e) 5) (a + 1) (Q.1 + nI (prc Q.2.2 E e))) (a + 5) (nI (Q.2.1.length + 1))) (51 + 2406 * i + (1958 + 3 * e)) 0) := by
          have g1 : putF g (a + 6 + 5 * Q.2.1.length) (mkE Q.2.2 E e) 5 (a + 1) = Q.1 := by
            rw [putF_ne _ _ (by omega)]
            exact hg.2.2.1
          have g5 : putF g (a + 6 + 5 * Q.2.1.length) (mkE Q.2.2 E e) 5 (a + 5) = nI Q.2.1.length := by
            rw [putF_ne _ _ (by omega)]
            exact hg.2.2.2.1
          have n1 : nI Q.2.1.length + Int32.ofInt 1 = nI (Q.2.1.length + 1) := nI_add _ 1
          simp only [up2_stF, stF_stF, stF_at, rW_at, stF_rW, g1]
          rw [upd_ne (k := a + 5) _ _ (by omega), g5, n1]
          rfl
        refine ⟨3 * l.length + 1, [some (.inr (.inr (20, r))), some (.inl (nI i)), some (.inl (nI a)), none, none], by omega, ⟨rfl, rfl, rfl, trivial⟩, Or.inr (Or.inr (Or.inr ⟨P ++ [e], l, putQ E Q e, T, _, ho', hQ', ?_, hT, rfl, rfl, rfl, rfl, mem, rfl, rfl⟩))⟩
        rw [e1]
        have kp : ∀ z, (z < a ∨ a + 86 ≤ z) → ¬ z = 51 + 2406 * i + (1958 + 3 * e) → upd (upd (upd (putF g (a + 6 + 5 * Q.2.1.length) (mkE Q.2.2 E e) 5) (a + 1) (Q.1 + nI (prc Q.2.2 E e))) (a + 5) (nI (Q.2.1.length + 1))) (51 + 2406 * i + (1958 + 3 * e)) 0 z = g z := fun z hz hz2 => by
          rw [upd_ne _ _ hz2, upd_ne _ _ (by omega), upd_ne _ _ (by omega), putF_ne _ _ (by omega)]
        refine ⟨?_, fun z hz => (kp z (by omega) (by omega)).trans (hg.2.1 z hz), ?_, ?_, fun j en hj k hk => ?_⟩
        · obtain ⟨h1, h2, h3, h4, h5⟩ := hg.1
          have pl : (cP Q.2.2).length = (cP X).length := by rw [hQ.2.2.2.1]
          refine ⟨RS.keep h1 fun z z1 z2 => kp z (by omega) (by omega), RA.keep h2 fun z z1 z2 => kp z (by omega) (by omega), ⟨by rw [kp _ (by omega) (by omega)]; exact h3.1, h3.2.1, fun j p hp => ?_⟩, fun e' he' k hk => ?_, RD.keep h5 fun z z1 z2 => kp z (by omega) (by omega)⟩
          · have hj : j < (cP Q.2.2).length := (List.getElem?_eq_some_iff.mp hp).1
            exact (h3.2.2 j p hp).keep fun z z1 z2 => kp z (by omega) (by omega)
          · show _ = up2 (cB Q.2.2) e 0 0 e' k
            unfold up2
            by_cases q : e' = e ∧ k = 0
            · rw [if_pos q, q.1, q.2]
              exact upd_eq _ _ _
            · rw [if_neg q, kp _ (by omega) (by omega)]
              exact h4 e' he' k hk
        · rw [upd_ne _ _ (by omega), upd_ne _ _ (by omega), upd_eq]
        · rw [upd_ne _ _ (by omega), upd_eq]
          show _ = nI (Q.2.1 ++ [_]).length
          rw [List.length_append]
          rfl
        · have hj : (Q.2.1 ++ [mkE Q.2.2 E e])[j]? = some en := hj
          have hjl : j < (Q.2.1 ++ [mkE Q.2.2 E e]).length := (List.getElem?_eq_some_iff.mp hj).1
          rw [List.length_append] at hjl
          have hjl : j < Q.2.1.length + 1 := hjl
          rw [upd_ne _ _ (by omega), upd_ne _ _ (by omega), upd_ne _ _ (by omega)]
          by_cases q : j < Q.2.1.length
          · rw [List.getElem?_append_left q] at hj
            rw [putF_ne _ _ (by omega)]
            exact hg.2.2.2.2 j en hj k hk
          · obtain rfl : j = Q.2.1.length := by omega
            rw [List.getElem?_append_right (Nat.le_refl _), Nat.sub_self] at hj
            cases hj
            exact putF_at _ _ _ hk
    · refine ⟨i, Q.2.2, rfl, hi, by rw [rW_at]; exact hg.1, 3 * l.length, seL r i a (oV l.head?), by omega, ⟨rfl, rfl, rfl, ?_, trivial⟩, Or.inr (Or.inl ⟨P, l, Q, T, g, ho, hQ, hg, hT, rfl, rfl, rfl, rfl, rfl, rfl, rfl⟩)⟩
      rw [rt_5, nxt_after ho hQ.2.2.2.2.1 hT]
end
section
/-! THE REFERENCE serves a client, passes a tick, keeps a state. -/
theorem raiN_P (X : CS) (E : Nat → Nat → Int32) : ∀ n, cP (raiN X E n) = cP X
  | 0 => rfl
  | n + 1 => raiN_P X E n
theorem raiN_A (X : CS) (E : Nat → Nat → Int32) : ∀ n, cA (raiN X E n) = cA X
  | 0 => rfl
  | n + 1 => raiN_A X E n
theorem raiN_S (X : CS) (E : Nat → Nat → Int32) : ∀ n, cS (raiN X E n) = cS X
  | 0 => rfl
  | n + 1 => raiN_S X E n
theorem raiN_R (X : CS) (E : Nat → Nat → Int32) : ∀ n, cR (raiN X E n) = cR X
  | 0 => rfl
  | n + 1 => raiN_R X E n
theorem raiN_B (X : CS) (E : Nat → Nat → Int32) (e k : Nat) (hk : ¬ k = 0) : ∀ n, cB (raiN X E n) e k = cB X e k
  | 0 => rfl
  | n + 1 => by
    show up2 (cB (raiN X E n)) n 0 _ e k = _
    unfold up2
    rw [if_neg fun q => hk q.2]
    exact raiN_B X E e k hk n
theorem zeroO_bit {t lim : Int32} {p : PK} (h : p.1 4 = 0 ∨ p.1 4 = 1) : (zeroO t lim p).1 4 = 0 ∨ (zeroO t lim p).1 4 = 1 := by
  unfold zeroO
  split
  · refine Or.inl ?_
    show upd p.1 4 0 4 = 0
    exact upd_eq _ _ _
  · exact h
theorem giv_bit {t lim : Int32} {X : CS} (h : bitP (cP X)) : bitP (cP (giv t lim X)) := fun p hp => by
  have hp := (List.mem_filter.mp hp).1
  obtain ⟨q, hq, rfl⟩ := List.mem_map.mp hp
  exact zeroO_bit (h q hq)
def RUT (μ : MM) (r i : Nat) (X' : CS) (K : MM → Prop) : Prop := ∀ T f', RC f' i X' → (∀ k, k < 51 + 2406 * i ∨ 51 + 2406 * i + 2406 ≤ k → f' k = μ.1 (r + 1) k) → K (rW (tW μ r T) r f')
def sp_X10_serve : SPc := fun As μ K => match As with
  | [.inr (.inr (20, r)), .inl c] => ∃ (i : Nat) (X : CS) (E : Nat → Nat → Int32), c = nI i ∧ i < 3 ∧ RC (μ.1 (r + 1)) i X ∧ (∀ e, e < 16 → μ.1 (r + 1) (3 + 3 * e) = E e 0 ∧ sOK (E e 0)) ∧ (∀ e, e < 16 → sOK (cB X e 2)) ∧ bitP (cP X) ∧ ¬ μ.1 (r + 1) 2 = 0 ∧ (flyN (cP (giv (μ.1 (r + 1) 0) (4 * μ.1 (r + 1) 1 + μ.1 (r + 1) 2) X)) < 12 → (cP (giv (μ.1 (r + 1) 0) (4 * μ.1 (r + 1) 1 + μ.1 (r + 1) 2) X)).length ≤ 21) ∧ RUT μ r i (srv (μ.1 (r + 1) 0) (μ.1 (r + 1) 1) (μ.1 (r + 1) 2) E X) (K (.inl none))
  | _ => False
def svL (r i k : Nat) : LC := [some (.inr (.inr (20, r))), some (.inl (nI i)), some (.inl (nI k))]
def ct_X10_serve : List (Nat × CI) := [(165, ci_X10_giveUp), (168, ci_X10_raise), (171, ci_X10_flying), (174, ci_X10_send)]
def ci_X10_serve : CI := (yX10_serve, cX10_serve, 3, none, 2, (6, 0, 0, 139), 19, [], sp_X10_serve)
set_option maxRecDepth 100000 in
theorem ck_X10_serve : chkM ci_X10_serve RX10 co_X10_serve ct_X10_serve [] false false = true := by decide +kernel
set_option maxHeartbeats 4000000 in
set_option maxRecDepth 100000 in
theorem ms_X10_serve {g : GPT} {ot : OT} {l : Launch} (hl : l.stackTraces = false) : MS g ot l ci_X10_serve := by
  refine ms_of hl RX10 co_X10_serve ct_X10_serve [] false false [7] 38 ck_X10_serve (List.forall_mem_cons.mpr ⟨ms_X10_giveUp hl, List.forall_mem_cons.mpr ⟨ms_X10_raise hl, List.forall_mem_cons.mpr ⟨ms_X10_flying hl, List.forall_mem_cons.mpr ⟨ms_X10_send hl, fun _ h => nomatch h⟩⟩⟩⟩) ?_
  intro As μ K h
  simp only [ci_X10_serve, sp_X10_serve] at h
  split at h
  case h_2 => exact h.elim
  rename_i r c
  obtain ⟨i, X, E, rfl, hi, hX, hE, hB, hb, hz, hl, h⟩ := h
  generalize hY : giv (μ.1 (r + 1) 0) (4 * μ.1 (r + 1) 1 + μ.1 (r + 1) 2) X = Y at hl
  have hYB : ∀ e, e < 16 → sOK (cB Y e 2) := fun e he => by rw [← hY]; exact hB e he
  have hYb : bitP (cP Y) := by rw [← hY]; exact giv_bit hb
  have hS : srv (μ.1 (r + 1) 0) (μ.1 (r + 1) 1) (μ.1 (r + 1) 2) E X = if μ.1 (r + 1) 0 % μ.1 (r + 1) 2 = 0 ∧ flyN (cP (raiN Y E 16)) < 12 then snd1 (μ.1 (r + 1) 0) (μ.1 (r + 1) 1) E (raiN Y E 16) else raiN Y E 16 := by
    unfold srv
    rw [hY]
  refine ⟨Nat.le_of_ble_eq_true rfl, fun m pc lc st μ' ce sl => ∃ k g, k ≤ 16 ∧ m = 16 - k ∧ pc = 7 ∧ lc = svL r i k ∧ st = [] ∧ μ' = rW μ r g ∧ RC g i (raiN Y E k) ∧ (∀ z, z < 51 + 2406 * i ∨ 51 + 2406 * i + 2406 ≤ z → g z = μ.1 (r + 1) z) ∧ ce = 0 ∧ sl = 0, ?_, ?_⟩
  · refine ⟨i, X, rfl, hi, hX, fun f' hf hof => ⟨16 - 0, svL r i 0, ⟨rfl, rfl, rfl, trivial⟩, 0, f', Nat.zero_le _, rfl, rfl, rfl, rfl, rfl, ?_, hof, rfl, rfl⟩⟩
    rw [hY] at hf
    exact hf
  · rintro m pc lc st μ' ce sl ⟨k, g, hk, rfl, rfl, rfl, rfl, rfl, hg, ho, rfl, rfl⟩
    have g0 : (rW μ r g).1 (r + 1) 0 = μ.1 (r + 1) 0 := by rw [rW_at]; exact ho 0 (by omega)
    have g1 : (rW μ r g).1 (r + 1) 1 = μ.1 (r + 1) 1 := by rw [rW_at]; exact ho 1 (by omega)
    have g2 : (rW μ r g).1 (r + 1) 2 = μ.1 (r + 1) 2 := by rw [rW_at]; exact ho 2 (by omega)
    have hE' : ∀ e, e < 16 → (rW μ r g).1 (r + 1) (3 + 3 * e) = E e 0 ∧ sOK (E e 0) := fun e he => by
      rw [rW_at, ho _ (by omega)]
      exact hE e he
    refine ⟨fun h1 => ?_, fun h1 => ?_⟩
    · simp only [icP, ifP, iL, iM1] at h1
      try simp only [z_nI] at h1
      try simp only [nI_add, nI_mul] at h1
      first | rw [nI_le_iff (by omega) (by omega)] at h1 | rw [nI_lt_iff (by omega) (by omega)] at h1 | rw [nI_eq_iff (by omega) (by omega)] at h1
      obtain rfl : k = 16 := by omega
      have hself : rW μ r g = rW (tW μ r (μ.1 (r + 5))) r g := by rw [tW_self]
      have hb16 : bitP (cP (raiN Y E 16)) := by rw [raiN_P]; exact hYb
      refine ⟨0, rfl, by omega, 2, rfl, by omega, by rw [g2]; exact hz, fun h2 => ?_, fun h2 => ⟨i, raiN Y E 16, rfl, hi, by rw [rW_at]; exact hg, hb16, fun h3 => ?_, fun h3 => ⟨i, raiN Y E 16, E, rfl, hi, by rw [rW_at]; exact hg, hE', fun e he => by rw [raiN_B _ _ _ _ (by omega)]; exact hYB e he, ?_, fun T f' hf hof => ?_⟩⟩⟩
      · have h2 : ¬ (rW μ r g).1 (r + 1) 0 % (rW μ r g).1 (r + 1) 2 = 0 := h2
        rw [g0, g2] at h2
        rw [hself]
        refine h _ _ ?_ ho
        rw [hS, if_neg fun q => h2 q.1]
        exact hg
      · have h3 : nI 12 ≤ nI (flyN (cP (raiN Y E 16))) := h3
        rw [hself]
        refine h _ _ ?_ ho
        have hlt : flyN (cP (raiN Y E 16)) ≤ 22 := Nat.le_trans (List.length_filter_le _ _) hg.2.2.1.2.1
        rw [nI_le_iff (by omega) (by omega)] at h3
        rw [hS, if_neg fun q => absurd q.2 (by omega)]
        exact hg
      · have h3 : ¬ nI 12 ≤ nI (flyN (cP (raiN Y E 16))) := h3
        have hlt : flyN (cP (raiN Y E 16)) ≤ 22 := Nat.le_trans (List.length_filter_le _ _) hg.2.2.1.2.1
        rw [nI_le_iff (by omega) (by omega)] at h3
        rw [raiN_P] at h3 ⊢
        exact hl (by omega)
      · have h2 : ¬ ¬ (rW μ r g).1 (r + 1) 0 % (rW μ r g).1 (r + 1) 2 = 0 := h2
        have h3 : ¬ nI 12 ≤ nI (flyN (cP (raiN Y E 16))) := h3
        have hlt : flyN (cP (raiN Y E 16)) ≤ 22 := Nat.le_trans (List.length_filter_le _ _) hg.2.2.1.2.1
        rw [nI_le_iff (by omega) (by omega)] at h3
        rw [g0, g2, Classical.not_not] at h2
        show K _ _
        rw [tW_rW, rW_rW]
        rw [g0, g1] at hf
        refine h T f' ?_ fun z hz => (hof z hz).trans (by rw [rW_at]; exact ho z hz)
        rw [hS, if_pos ⟨h2, by omega⟩]
        exact hf
    · simp only [icP, ifP, iL, iM1] at h1
      try simp only [z_nI] at h1
      try simp only [nI_add, nI_mul] at h1
      first | rw [nI_le_iff (by omega) (by omega)] at h1 | rw [nI_lt_iff (by omega) (by omega)] at h1 | rw [nI_eq_iff (by omega) (by omega)] at h1
      refine ⟨i, k, raiN Y E k, E, rfl, rfl, hi, by omega, by rw [rW_at]; exact hg, hE' k (by omega), fun f' hf hof => ?_⟩
      rw [rW_rW]
      exact ⟨16 - (k + 1), svL r i (k + 1), by omega, ⟨rfl, rfl, inc_tv k, trivial⟩, k + 1, f', by omega, rfl, rfl, rfl, rfl, rfl, hf, fun z hz => (hof z hz).trans (by rw [rW_at]; exact ho z hz), rfl, rfl⟩
/-! a tick of the world -/
def mvE (E : Nat → Nat → Int32) (e k : Nat) : Int32 := if E e 0 = -1 then E e k else match k with
  | 0 => nI (mvS (mvS (sN (E e 0)) 0 (E e 1)) 1 (E e 2))
  | 1 => mvW (prt (sN (E e 0)) 0) (E e 1)
  | 2 => mvW (prt (mvS (sN (E e 0)) 0 (E e 1)) 1) (E e 2)
  | k => E e k
def tkA (W : WS) (c : Nat) : CS := arrC (wT W 0 + 1) (wT W 1) (wC W c)
def tkS (W : WS) (c : Nat) : CS := if cnn (tkA W c) then srv (wT W 0 + 1) (wT W 1) (wT W 2) (mvE (wE W)) (tkA W c) else tkA W c
def tk (W : WS) : WS := (upd (wT W) 0 (wT W 0 + 1), mvE (wE W), tkS W)
def eVK (E : Nat → Nat → Int32) : Prop := ∀ e, e < 16 → sOK (E e 0) ∧ vOK (E e 1) ∧ vOK (E e 2)
def TKP (W : WS) : Prop := eVK (wE W) ∧ ¬ wT W 2 = 0 ∧ ∀ c, c < 3 → eOK (wC W c) ∧ RI (wC W c) ∧ (cA (wC W c)).length + arN (wT W 0 + 1) (cP (wC W c)) ≤ 24 ∧ (∀ e, e < 16 → sOK (cB (tkA W c) e 2)) ∧ bitP (cP (tkA W c)) ∧ (flyN (cP (giv (wT W 0 + 1) (4 * wT W 1 + wT W 2) (tkA W c))) < 12 → (cP (giv (wT W 0 + 1) (4 * wT W 1 + wT W 2) (tkA W c))).length ≤ 21)
theorem mvE_ok {E : Nat → Nat → Int32} (h : eVK E) : eVK (mvE E) := fun e he => by
  obtain ⟨h1, h2, h3⟩ := h e he
  by_cases q : E e 0 = -1
  · have : ∀ k, mvE E e k = E e k := fun k => if_pos q
    rw [this, this, this]
    exact ⟨h1, h2, h3⟩
  · obtain ⟨n, n1, n2, n3⟩ := sOK_ne h1 q
    have e0 : mvE E e 0 = nI (mvS (mvS (sN (E e 0)) 0 (E e 1)) 1 (E e 2)) := if_neg q
    have e1 : mvE E e 1 = mvW (prt (sN (E e 0)) 0) (E e 1) := if_neg q
    have e2 : mvE E e 2 = mvW (prt (mvS (sN (E e 0)) 0 (E e 1)) 1) (E e 2) := if_neg q
    rw [e0, e1, e2, n3]
    exact ⟨Or.inr ⟨_, mvS_lt (mvS_lt n1 (by omega) h2) (by omega) h3, rfl⟩, (mv_ok (prt01 _ _ (by omega)) h2).2.2, (mv_ok (prt01 _ _ (by omega)) h3).2.2⟩
/-- another client's cells, or the same -/
theorem RW.setC {f g : Nat → Int32} {T : Nat → Int32} {E : Nat → Nat → Int32} {C D : Nat → CS} {i : Nat} (h : RW f (T, E, C)) (hi : RC g i (D i)) (hD : ∀ c, c < 3 → ¬ c = i → D c = C c) (hg : ∀ k, k < 51 + 2406 * i ∨ 51 + 2406 * i + 2406 ≤ k → g k = f k) : RW g (T, E, D) := by
  obtain ⟨h1, h2, h3⟩ := h
  refine ⟨fun k hk => (hg k (by omega)).trans (h1 k hk), fun e he k hk => (hg _ (by omega)).trans (h2 e he k hk), fun c hc => ?_⟩
  show RC g c (D c)
  by_cases q : c = i
  · rw [q]; exact hi
  · rw [hD c hc q]
    exact (h3 c hc).keep fun k k1 k2 => hg k (by omega)
def toC (C D : Nat → CS) (k c : Nat) : CS := if c < k then D c else C c
theorem toC_0 (C D : Nat → CS) : toC C D 0 = C := by funext c; unfold toC; rw [if_neg (Nat.not_lt_zero _)]
theorem toC_at (C D : Nat → CS) (k : Nat) : toC C D k k = C k := if_neg (Nat.lt_irrefl _)
theorem toC_S (C D : Nat → CS) (k : Nat) : toC C D (k + 1) k = D k := if_pos (Nat.lt_succ_self _)
theorem toC_ne (C D : Nat → CS) {k c : Nat} (h : ¬ c = k) : toC C D (k + 1) c = toC C D k c := by
  unfold toC
  by_cases q : c < k
  · rw [if_pos q, if_pos (by omega)]
  · rw [if_neg q, if_neg (by omega)]
theorem RW.all {f : Nat → Int32} {T : Nat → Int32} {E : Nat → Nat → Int32} {C D : Nat → CS} (h : RW f (T, E, toC C D 3)) : RW f (T, E, D) :=
  ⟨h.1, h.2.1, fun c hc => by
    have := h.2.2 c hc
    have e : toC C D 3 c = D c := if_pos hc
    show RC f c (D c)
    rw [← e]
    exact this⟩
def toL (r k : Nat) : LC := [some (.inr (.inr (20, r))), some (.inl (nI k))]
/-- the cells of the entities, some moved -/
def MV (f g : Nat → Int32) (E : Nat → Nat → Int32) (k : Nat) : Prop := (∀ e, e < 16 → ∀ j, j < 3 → g (3 + 3 * e + j) = if e < k then mvE E e j else E e j) ∧ ∀ z, (z < 3 ∨ 51 ≤ z) → g z = f z
def sp_X10_tickOne : SPc := fun As μ K => match As with
  | [.inr (.inr (20, r))] => ∃ (W : WS), RW (μ.1 (r + 1)) W ∧ TKP W ∧ ∀ T f', RW f' (tk W) → K (.inl none) (rW (tW μ r T) r f')
  | _ => False
def ct_X10_tickOne : List (Nat × CI) := [(68, ci_X10_exists), (177, ci_X10_moveOne), (180, ci_X10_arriveAll), (89, ci_X10_isConnected), (183, ci_X10_serve)]
def ci_X10_tickOne : CI := (yX10_tickOne, cX10_tickOne, 2, none, 1, (7, 0, 0, 161), 19, [], sp_X10_tickOne)
set_option maxRecDepth 100000 in
theorem ck_X10_tickOne : chkM ci_X10_tickOne RX10 co_X10_tickOne ct_X10_tickOne [] false false = true := by decide +kernel
set_option maxHeartbeats 4000000 in
set_option maxRecDepth 100000 in
theorem ms_X10_tickOne {g : GPT} {ot : OT} {l : Launch} (hl : l.stackTraces = false) : MS g ot l ci_X10_tickOne := by
  refine ms_of hl RX10 co_X10_tickOne ct_X10_tickOne [] false false [12,46,64] 57 ck_X10_tickOne (List.forall_mem_cons.mpr ⟨ms_X10_exists hl, List.forall_mem_cons.mpr ⟨ms_X10_moveOne hl, List.forall_mem_cons.mpr ⟨ms_X10_arriveAll hl, List.forall_mem_cons.mpr ⟨ms_X10_isConnected hl, List.forall_mem_cons.mpr ⟨ms_X10_serve hl, fun _ h => nomatch h⟩⟩⟩⟩⟩) ?_
  intro As μ K h
  simp only [ci_X10_tickOne, sp_X10_tickOne] at h
  split at h
  case h_2 => exact h.elim
  rename_i r
  obtain ⟨W, hW, ⟨p1, p2, p3⟩, h⟩ := h
  have f0 : μ.1 (r + 1) 0 = wT W 0 := hW.1 0 (by omega)
  generalize hf1 : upd (μ.1 (r + 1)) 0 (wT W 0 + 1) = f1 at *
  refine ⟨Nat.le_of_ble_eq_true rfl, fun m pc lc st μ' ce sl => (∃ k g, k ≤ 16 ∧ m = 100 + (16 - k) ∧ pc = 12 ∧ lc = toL r k ∧ st = [] ∧ μ' = rW μ r g ∧ MV f1 g (wE W) k ∧ ce = 0 ∧ sl = 0) ∨
    (∃ k g, k ≤ 3 ∧ m = 50 + (3 - k) ∧ pc = 46 ∧ lc = toL r k ∧ st = [] ∧ μ' = rW μ r g ∧ RW g (upd (wT W) 0 (wT W 0 + 1), mvE (wE W), toC (wC W) (tkA W) k) ∧ ce = 0 ∧ sl = 0) ∨
    (∃ k T g, k ≤ 3 ∧ m = 3 - k ∧ pc = 64 ∧ lc = toL r k ∧ st = [] ∧ μ' = rW (tW μ r T) r g ∧ RW g (upd (wT W) 0 (wT W 0 + 1), mvE (wE W), toC (tkA W) (tkS W) k) ∧ ce = 0 ∧ sl = 0), ?_, ?_⟩
  · refine ⟨0, rfl, by omega, 0, rfl, by omega, 100 + (16 - 0), toL r 0, ⟨rfl, rfl, trivial⟩, Or.inl ⟨0, f1, Nat.zero_le _, rfl, rfl, rfl, rfl, ?_, ⟨fun e he j hj => ?_, fun z hz => rfl⟩, rfl, rfl⟩⟩
    · show ((up2 μ.1 (r + 1) 0 (μ.1 (r + 1) 0 + Int32.ofInt 1), μ.2) : MM) = _
      rw [up2_rW, f0, ← hf1]
      rfl
    · rw [if_neg (Nat.not_lt_zero _), ← hf1, upd_ne _ _ (by omega)]
      exact hW.2.1 e he j hj
  · rintro m pc lc st μ' ce sl (⟨k, g, hk, rfl, rfl, rfl, rfl, rfl, hg, rfl, rfl⟩ | ⟨k, g, hk, rfl, rfl, rfl, rfl, rfl, hg, rfl, rfl⟩ | ⟨k, T, g, hk, rfl, rfl, rfl, rfl, rfl, hg, rfl, rfl⟩)
    · refine ⟨fun h1 => ?_, fun h1 => ?_⟩
      · simp only [icP, ifP, iL, iM1] at h1
        try simp only [z_nI] at h1
        try simp only [nI_add, nI_mul] at h1
        first | rw [nI_le_iff (by omega) (by omega)] at h1 | rw [nI_lt_iff (by omega) (by omega)] at h1 | rw [nI_eq_iff (by omega) (by omega)] at h1
        obtain rfl : k = 16 := by omega
        refine ⟨50 + (3 - 0), toL r 0, by omega, ⟨rfl, rfl, trivial⟩, Or.inr (Or.inl ⟨0, g, Nat.zero_le _, rfl, rfl, rfl, rfl, rfl, ?_, rfl, rfl⟩)⟩
        rw [toC_0]
        refine ⟨fun k hk => ?_, fun e he k hk => ?_, fun c hc => ?_⟩
        · show g k = upd (wT W) 0 _ k
          rw [hg.2 k (by omega), ← hf1]
          by_cases q : k = 0
          · rw [q, upd_eq, upd_eq]
          · rw [upd_ne _ _ q, upd_ne _ _ q]
            exact hW.1 k hk
        · rw [hg.1 e he k hk, if_pos he]
        · refine RC.keep (hW.2.2 c hc) fun z z1 z2 => ?_
          rw [hg.2 z (by omega), ← hf1, upd_ne _ _ (by omega)]
      · simp only [icP, ifP, iL, iM1] at h1
        try simp only [z_nI] at h1
        try simp only [nI_add, nI_mul] at h1
        first | rw [nI_le_iff (by omega) (by omega)] at h1 | rw [nI_lt_iff (by omega) (by omega)] at h1 | rw [nI_eq_iff (by omega) (by omega)] at h1
        have gk : ∀ j, j < 3 → (rW μ r g).1 (r + 1) (3 + 3 * k + j) = wE W k j := fun j hj => by
          rw [rW_at, hg.1 k (by omega) j hj, if_neg (Nat.lt_irrefl _)]
        have g0 := gk 0 (by omega)
        have g1 := gk 1 (by omega)
        have g2 := gk 2 (by omega)
        obtain ⟨s1, s2, s3⟩ := p1 k (by omega)
        refine ⟨k, rfl, by omega, fun h2 => ?_, fun h2 => ?_⟩
        · have h2 : iB (¬ (rW μ r g).1 (r + 1) (3 + 3 * k + 0) = -1) = 0 := h2
          rw [iB_eq0, g0, Classical.not_not] at h2
          refine ⟨100 + (16 - (k + 1)), toL r (k + 1), by omega, ⟨rfl, inc_tv k, trivial⟩, Or.inl ⟨k + 1, g, by omega, rfl, rfl, rfl, rfl, rfl, ⟨fun e he j hj => ?_, hg.2⟩, rfl, rfl⟩⟩
          rw [hg.1 e he j hj]
          by_cases q : e < k
          · rw [if_pos q, if_pos (by omega)]
          · rw [if_neg q]
            by_cases q2 : e = k
            · rw [if_pos (by omega), q2]
              exact (if_pos h2).symm
            · rw [if_neg (by omega)]
        · have h2 : ¬ iB (¬ (rW μ r g).1 (r + 1) (3 + 3 * k + 0) = -1) = 0 := h2
          rw [iB_ne0, g0] at h2
          obtain ⟨n, n1, n2, n3⟩ := sOK_ne s1 h2
          refine ⟨k, 0, n, wE W k 1, rfl, rfl, by omega, by omega, by rw [← n2]; exact g0, n1, g1, s2, ?_⟩
          rw [rW_rW]
          refine ⟨k, 1, mvS n 0 (wE W k 1), wE W k 2, rfl, rfl, by omega, by omega, by rw [rW_at, upd_eq], mvS_lt n1 (by omega) s2, ?_, s3, ?_⟩
          · rw [rW_at, upd_ne _ _ (by omega), upd_ne _ _ (by omega)]
            rw [rW_at] at g2 ⊢
            exact g2
          · rw [rW_rW, rW_at, rW_at]
            refine ⟨100 + (16 - (k + 1)), toL r (k + 1), by omega, ⟨rfl, inc_tv k, trivial⟩, Or.inl ⟨k + 1, _, by omega, rfl, rfl, rfl, rfl, rfl, ⟨fun e he j hj => ?_, fun z hz => ?_⟩, rfl, rfl⟩⟩
            · by_cases q2 : e = k
              · subst q2
                rw [if_pos (by omega)]
                have hj3 : j = 0 ∨ j = 1 ∨ j = 2 := by omega
                rcases hj3 with rfl | rfl | rfl
                · show upd _ (3 + 3 * e) _ (3 + 3 * e) = _
                  rw [upd_eq]
                  have : mvE (wE W) e 0 = nI (mvS (mvS (sN (wE W e 0)) 0 (wE W e 1)) 1 (wE W e 2)) := if_neg h2
                  rw [this, n3]
                · rw [upd_ne _ _ (by omega), upd_ne _ _ (by omega), upd_ne _ _ (by omega), upd_eq]
                  have : mvE (wE W) e 1 = mvW (prt (sN (wE W e 0)) 0) (wE W e 1) := if_neg h2
                  rw [this, n3]
                · rw [upd_ne _ _ (by omega), upd_eq]
                  have : mvE (wE W) e 2 = mvW (prt (mvS (sN (wE W e 0)) 0 (wE W e 1)) 1) (wE W e 2) := if_neg h2
                  rw [this, n3]
              · rw [upd_ne _ _ (by omega), upd_ne _ _ (by omega), upd_ne _ _ (by omega), upd_ne _ _ (by omega), hg.1 e he j hj]
                by_cases q : e < k
                · rw [if_pos q, if_pos (by omega)]
                · rw [if_neg q, if_neg (by omega)]
            · rw [upd_ne _ _ (by omega), upd_ne _ _ (by omega), upd_ne _ _ (by omega), upd_ne _ _ (by omega)]
              exact hg.2 z hz
    · refine ⟨fun h1 => ?_, fun h1 => ?_⟩
      · simp only [icP, ifP, iL, iM1] at h1
        try simp only [z_nI] at h1
        try simp only [nI_add, nI_mul] at h1
        first | rw [nI_le_iff (by omega) (by omega)] at h1 | rw [nI_lt_iff (by omega) (by omega)] at h1 | rw [nI_eq_iff (by omega) (by omega)] at h1
        obtain rfl : k = 3 := by omega
        refine ⟨3 - 0, toL r 0, by omega, ⟨rfl, rfl, trivial⟩, Or.inr (Or.inr ⟨0, μ.1 (r + 5), g, Nat.zero_le _, rfl, rfl, rfl, rfl, by rw [tW_self], ?_, rfl, rfl⟩)⟩
        rw [toC_0]
        exact hg.all
      · simp only [icP, ifP, iL, iM1] at h1
        try simp only [z_nI] at h1
        try simp only [nI_add, nI_mul] at h1
        first | rw [nI_le_iff (by omega) (by omega)] at h1 | rw [nI_lt_iff (by omega) (by omega)] at h1 | rw [nI_eq_iff (by omega) (by omega)] at h1
        obtain ⟨q1, q2, q3, q4⟩ := p3 k (by omega)
        have g0 : (rW μ r g).1 (r + 1) 0 = wT W 0 + 1 := by
          rw [rW_at]
          exact (hg.1 0 (by omega)).trans (upd_eq (wT W) 0 (wT W 0 + 1))
        have g1 : (rW μ r g).1 (r + 1) 1 = wT W 1 := by
          rw [rW_at]
          exact (hg.1 1 (by omega)).trans (upd_ne (wT W) (i := 0) (k := 1) (wT W 0 + 1) (by omega))
        have hc := hg.2.2 k (by omega)
        rw [show wC (upd (wT W) 0 (wT W 0 + 1), mvE (wE W), toC (wC W) (tkA W) k) k = wC W k from toC_at _ _ _] at hc
        refine ⟨k, wC W k, rfl, by omega, by rw [rW_at]; exact hc, q1, q2, by rw [g0]; exact q3, fun f' hf hof => ?_⟩
        rw [rW_rW]
        rw [g0, g1] at hf
        rw [rW_at] at hof
        refine ⟨50 + (3 - (k + 1)), toL r (k + 1), by omega, ⟨rfl, inc_tv k, trivial⟩, Or.inr (Or.inl ⟨k + 1, f', by omega, rfl, rfl, rfl, rfl, rfl, RW.setC hg (i := k) ?_ (fun c _ hc => toC_ne _ _ hc) hof, rfl, rfl⟩)⟩
        rw [toC_S]
        exact hf
    · refine ⟨fun h1 => ?_, fun h1 => ?_⟩
      · simp only [icP, ifP, iL, iM1] at h1
        try simp only [z_nI] at h1
        try simp only [nI_add, nI_mul] at h1
        first | rw [nI_le_iff (by omega) (by omega)] at h1 | rw [nI_lt_iff (by omega) (by omega)] at h1 | rw [nI_eq_iff (by omega) (by omega)] at h1
        obtain rfl : k = 3 := by omega
        exact h T g hg.all
      · simp only [icP, ifP, iL, iM1] at h1
        try simp only [z_nI] at h1
        try simp only [nI_add, nI_mul] at h1
        first | rw [nI_le_iff (by omega) (by omega)] at h1 | rw [nI_lt_iff (by omega) (by omega)] at h1 | rw [nI_eq_iff (by omega) (by omega)] at h1
        obtain ⟨q1, q2, q3, q4, q5, q6⟩ := p3 k (by omega)
        have g0 : (rW (tW μ r T) r g).1 (r + 1) 0 = wT W 0 + 1 := by
          rw [rW_at]
          exact (hg.1 0 (by omega)).trans (upd_eq (wT W) 0 (wT W 0 + 1))
        have g1 : (rW (tW μ r T) r g).1 (r + 1) 1 = wT W 1 := by
          rw [rW_at]
          exact (hg.1 1 (by omega)).trans (upd_ne (wT W) (i := 0) (k := 1) (wT W 0 + 1) (by omega))
        have g2 : (rW (tW μ r T) r g).1 (r + 1) 2 = wT W 2 := by
          rw [rW_at]
          exact (hg.1 2 (by omega)).trans (upd_ne (wT W) (i := 0) (k := 2) (wT W 0 + 1) (by omega))
        have hc := hg.2.2 k (by omega)
        rw [show wC (upd (wT W) 0 (wT W 0 + 1), mvE (wE W), toC (tkA W) (tkS W) k) k = tkA W k from toC_at _ _ _] at hc
        have c0 : (rW (tW μ r T) r g).1 (r + 1) (51 + 2406 * k) = cS (tkA W k) 0 := by rw [rW_at]; exact hc.1 0 (by omega)
        have mE := mvE_ok p1
        refine ⟨k, rfl, by omega, fun h2 => ?_, fun h2 => ⟨k, tkA W k, mvE (wE W), rfl, by omega, by rw [rW_at]; exact hc, fun e he => ⟨by rw [rW_at]; exact hg.2.1 e he 0 (by omega), (mE e he).1⟩, q4, q5, by rw [g2]; exact p2, by rw [g0, g1, g2]; exact q6, fun T' f' hf hof => ?_⟩⟩
        · have h2 : iB ((rW (tW μ r T) r g).1 (r + 1) (51 + 2406 * k) = 1) = 0 := h2
          rw [iB_eq0, c0] at h2
          refine ⟨3 - (k + 1), toL r (k + 1), by omega, ⟨rfl, inc_tv k, trivial⟩, Or.inr (Or.inr ⟨k + 1, T, g, by omega, rfl, rfl, rfl, rfl, rfl, RW.setC hg (i := k) ?_ (fun c _ hc => toC_ne _ _ hc) (fun z _ => rfl), rfl, rfl⟩)⟩
          rw [toC_S]
          have : tkS W k = tkA W k := if_neg h2
          rw [this]
          exact hc
        · have h2 : ¬ iB ((rW (tW μ r T) r g).1 (r + 1) (51 + 2406 * k) = 1) = 0 := h2
          rw [iB_ne0, c0] at h2
          rw [tW_rW, rW_rW, tW_tW]
          rw [g0, g1, g2] at hf
          rw [rW_at] at hof
          refine ⟨3 - (k + 1), toL r (k + 1), by omega, ⟨rfl, inc_tv k, trivial⟩, Or.inr (Or.inr ⟨k + 1, T', f', by omega, rfl, rfl, rfl, rfl, rfl, RW.setC hg (i := k) ?_ (fun c _ hc => toC_ne _ _ hc) hof, rfl, rfl⟩)⟩
          rw [toC_S]
          have : tkS W k = srv (wT W 0 + 1) (wT W 1) (wT W 2) (mvE (wE W)) (tkA W k) := if_pos h2
          rw [this]
          exact hf
end
section
/-! THE CLASS, its states. -/
/-- the old rows State.SHIFTS (91) and State.MASKS (92) -/
def otOK (ot : OT) : Prop := ot.1 91 = 4 ∧ ot.1 92 = 4 ∧ (ot.2 91 0 = 0 ∧ ot.2 91 1 = 5 ∧ ot.2 91 2 = 10 ∧ ot.2 91 3 = 12) ∧ (ot.2 92 0 = 31 ∧ ot.2 92 1 = 31 ∧ ot.2 92 2 = 3 ∧ ot.2 92 3 = 127)
theorem nI_or' (a b : Nat) : nI a ||| nI b = nI (a ||| b) := by
  apply Int32.toBitVec_inj.1
  show BitVec.ofNat 32 a ||| BitVec.ofNat 32 b = BitVec.ofNat 32 (a ||| b)
  apply BitVec.eq_of_getLsbD_eq
  intro i hi
  simp [hi]
theorem or_add (n : Nat) {a : Nat} (b : Nat) (h : a < 2 ^ n) : a ||| b * 2 ^ n = a + b * 2 ^ n := by
  rw [Nat.or_comm, Nat.mul_comm, ← Nat.two_pow_add_eq_or_of_lt h b, Nat.add_comm]
theorem shN (n k : Nat) (s : Int32) (hs : ((s &&& 31).toBitVec.smod 32).toNat = k) (h : n * 2 ^ k < 2 ^ 32) : nI n <<< (s &&& 31) = nI (n * 2 ^ k) := pk_shlN _ k hs h
theorem sh_ot {ot : OT} (hot : otOK ot) {k : Nat} (hk : k < 4) : ((ot.2 91 k &&& 31).toBitVec.smod 32).toNat = (if k = 0 then 0 else if k = 1 then 5 else if k = 2 then 10 else 12) := by
  obtain ⟨_, _, ⟨h0, h1, h2, h3⟩, _⟩ := hot
  match k, hk with
  | 0, _ => rw [h0]; decide +kernel
  | 1, _ => rw [h1]; decide +kernel
  | 2, _ => rw [h2]; decide +kernel
  | 3, _ => rw [h3]; decide +kernel
theorem pk_or {a b c d : Nat} (ha : a < 32) (hb : b < 32) (hc : c < 4) : a ||| b * 2 ^ 5 ||| c * 2 ^ 10 ||| d * 2 ^ 12 = pkN a b c d := by
  rw [or_add 5 b (by omega), or_add 10 c (by omega), or_add 12 d (by omega)]
  unfold pkN
  omega
def sp_X6_of : SPc := fun As μ K => match As with
  | [.inl x, .inl y, .inl k, .inl h] => ∃ a b c d : Nat, x = nI a ∧ y = nI b ∧ k = nI c ∧ h = nI d ∧ a < 32 ∧ b < 32 ∧ c < 4 ∧ d < 128 ∧ K (.inl (some (.inl (nI (pkN a b c d))))) μ
  | _ => False
def ct_X6_of : List (Nat × CI) := []
def ci_X6_of : CI := (yX6_of, cX6_of, 4, some .int, 4, (0, 0, 0, 0), 0, [], sp_X6_of)
set_option maxRecDepth 100000 in
theorem ck_X6_of : chkM ci_X6_of RX6 co_X6_of ct_X6_of [] false false = true := by decide +kernel
set_option maxHeartbeats 4000000 in
set_option maxRecDepth 100000 in
theorem ms_X6_of {g : GPT} {ot : OT} {l : Launch} (hl : l.stackTraces = false) (hot : otOK ot) : MS g ot l ci_X6_of := by
  refine ms0_of hl RX6 co_X6_of ct_X6_of [] false false 29 ck_X6_of (fun _ h => nomatch h) ?_
  intro As μ K h
  simp only [ci_X6_of, sp_X6_of] at h
  split at h
  case h_2 => exact h.elim
  obtain ⟨a, b, c, d, rfl, rfl, rfl, rfl, ha, hb, hc, hd, h⟩ := h
  have l1 := hot.1
  refine ⟨Nat.le_of_ble_eq_true rfl, fun _ => ⟨0, rfl, by omega, fun _ => ⟨1, rfl, by omega, fun _ => ⟨2, rfl, by omega, fun _ => ⟨3, rfl, by omega, ?_⟩⟩⟩⟩⟩
  show K (.inl (some (.inl (nI a <<< (ot.2 91 0 &&& 31) ||| nI b <<< (ot.2 91 1 &&& 31) ||| nI c <<< (ot.2 91 2 &&& 31) ||| nI d <<< (ot.2 91 3 &&& 31))))) μ
  rw [shN a 0 _ (sh_ot hot (by omega)) (by omega), shN b 5 _ (sh_ot hot (by omega)) (by omega), shN c 10 _ (sh_ot hot (by omega)) (by omega), shN d 12 _ (sh_ot hot (by omega)) (by omega), nI_or', nI_or', nI_or', Nat.pow_zero, Nat.mul_one, pk_or ha hb hc]
  exact h
theorem part_ot {ot : OT} (hot : otOK ot) {n k : Nat} (hn : n < 524288) (hk : k < 4) : nI n >>> (ot.2 91 k &&& 31) &&& ot.2 92 k = nI (prt n k) := by
  have hs := sh_ot hot hk
  obtain ⟨_, _, _, ⟨m0, m1, m2, m3⟩⟩ := hot
  match k, hk with
  | 0, _ =>
    rw [pk_shrN (by omega) _ 0 hs, m0, pk_andN (by omega) 5 (by decide +kernel)]
    congr 1
    simp only [prt]
    omega
  | 1, _ =>
    rw [pk_shrN (by omega) _ 5 hs, m1, pk_andN (by omega) 5 (by decide +kernel)]
    congr 1
  | 2, _ =>
    rw [pk_shrN (by omega) _ 10 hs, m2, pk_andN (by omega) 2 (by decide +kernel)]
    congr 1
  | 3, _ =>
    rw [pk_shrN (by omega) _ 12 hs, m3, pk_andN (by omega) 7 (by decide +kernel)]
    congr 1
    simp only [prt]
    omega
theorem part_ot' {ot : OT} (hot : otOK ot) {s : Int32} {k : Nat} (hs : sOK s) (hq : ¬ s = -1) (hk : k < 4) : s >>> (ot.2 91 k &&& 31) &&& ot.2 92 k = nI (pz s k) := by
  obtain ⟨n, n1, n2, n3⟩ := sOK_ne hs hq
  have e : pz s k = prt n k := by unfold pz; rw [if_neg hq, n3]
  rw [e, n2]
  exact part_ot hot n1 hk
def sp_X6_part : SPc := fun As μ K => match As with
  | [.inl s, .inl w] => ∃ k : Nat, w = nI k ∧ k < 4 ∧ sOK s ∧ K (.inl (some (.inl (nI (pz s k))))) μ
  | _ => False
def ct_X6_part : List (Nat × CI) := []
def ci_X6_part : CI := (yX6_part, cX6_part, 2, some .int, 2, (0, 0, 0, 0), 0, [], sp_X6_part)
set_option maxRecDepth 100000 in
theorem ck_X6_part : chkM ci_X6_part RX6 co_X6_part ct_X6_part [] false false = true := by decide +kernel
set_option maxHeartbeats 4000000 in
set_option maxRecDepth 100000 in
theorem ms_X6_part {g : GPT} {ot : OT} {l : Launch} (hl : l.stackTraces = false) (hot : otOK ot) : MS g ot l ci_X6_part := by
  refine ms0_of hl RX6 co_X6_part ct_X6_part [] false false 25 ck_X6_part (fun _ h => nomatch h) ?_
  intro As μ K h
  simp only [ci_X6_part, sp_X6_part] at h
  split at h
  case h_2 => exact h.elim
  rename_i s w
  obtain ⟨k, rfl, hk, hs, h⟩ := h
  have l1 := hot.1
  have l2 := hot.2.1
  refine ⟨Nat.le_of_ble_eq_true rfl, fun h1 => ?_, fun h1 => ⟨fun h2 => ?_, fun h2 => ⟨fun h3 => ?_, fun h3 => ?_⟩⟩⟩
  · have e : pz s k = 0 := if_pos h1
    rw [e] at h
    exact h
  · simp only [icP, ifP, iL, iM1] at h2
    try simp only [z_nI] at h2
    try simp only [nI_add, nI_mul] at h2
    first | rw [nI_le_iff (by omega) (by omega)] at h2 | rw [nI_lt_iff (by omega) (by omega)] at h2 | rw [nI_eq_iff (by omega) (by omega)] at h2
    omega
  · have h1 : ¬ s = -1 := h1
    refine fun _ => ⟨k, rfl, by omega, fun _ => ⟨k, rfl, by omega, ?_⟩⟩
    rw [← part_ot' hot hs h1 hk] at h
    exact h
  · simp only [icP, ifP, iL, iM1] at h3
    try simp only [z_nI] at h3
    try simp only [nI_add, nI_mul] at h3
    first | rw [nI_le_iff (by omega) (by omega)] at h3 | rw [nI_lt_iff (by omega) (by omega)] at h3 | rw [nI_eq_iff (by omega) (by omega)] at h3
    omega
theorem pz_nI {n : Nat} (hn : n < 524288) (k : Nat) : pz (nI n) k = prt n k := by
  unfold pz
  rw [if_neg (nI_ne_m1 (by omega)), sN_nI hn]
theorem sOK_nI {n : Nat} (hn : n < 524288) : sOK (nI n) := Or.inr ⟨n, hn, rfl⟩
def sp_X6_maskOfDifferences : SPc := fun As μ K => match As with
  | [.inl s, .inl t] => ∃ a b : Nat, s = nI a ∧ t = nI b ∧ a < 524288 ∧ b < 524288 ∧ K (.inl (some (.inl (nI (mkN a b))))) μ
  | _ => False
def ct_X6_maskOfDifferences : List (Nat × CI) := [(18, ci_X6_part)]
def ci_X6_maskOfDifferences : CI := (yX6_maskOfDifferences, cX6_maskOfDifferences, 4, some .int, 2, (1, 0, 0, 21), 0, [], sp_X6_maskOfDifferences)
set_option maxRecDepth 100000 in
theorem ck_X6_maskOfDifferences : chkM ci_X6_maskOfDifferences RX6 co_X6_maskOfDifferences ct_X6_maskOfDifferences [] false false = true := by decide +kernel
set_option maxHeartbeats 4000000 in
set_option maxRecDepth 100000 in
theorem ms_X6_maskOfDifferences {g : GPT} {ot : OT} {l : Launch} (hl : l.stackTraces = false) (hot : otOK ot) : MS g ot l ci_X6_maskOfDifferences := by
  refine ms_of hl RX6 co_X6_maskOfDifferences ct_X6_maskOfDifferences [] false false [4] 29 ck_X6_maskOfDifferences (List.forall_mem_cons.mpr ⟨ms_X6_part hl hot, fun _ h => nomatch h⟩) ?_
  intro As μ K h
  simp only [ci_X6_maskOfDifferences, sp_X6_maskOfDifferences] at h
  split at h
  case h_2 => exact h.elim
  obtain ⟨a, b, rfl, rfl, ha, hb, h⟩ := h
  refine ⟨Nat.le_of_ble_eq_true rfl, fun n pc lc st μ' ce sl => ∃ i, i ≤ 4 ∧ n = 4 - i ∧ pc = 4 ∧ lc = [some (.inl (nI a)), some (.inl (nI b)), some (.inl (nI (mkR a b i))), some (.inl (nI i))] ∧ st = [] ∧ μ' = μ ∧ ce = 0 ∧ sl = 0, ?_, ?_⟩
  · exact ⟨4, [some (.inl (nI a)), some (.inl (nI b)), some (.inl (nI 0)), some (.inl (nI 0))], ⟨rfl, rfl, rfl, rfl, trivial⟩, 0, Nat.zero_le _, rfl, rfl, rfl, rfl, rfl, rfl, rfl⟩
  · rintro n pc lc st μ' ce sl ⟨i, hi, rfl, rfl, rfl, rfl, rfl, rfl, rfl⟩
    refine ⟨fun h1 => ?_, fun h1 => ?_⟩
    · simp only [icP, ifP, iL, iM1] at h1
      try simp only [z_nI] at h1
      try simp only [nI_add, nI_mul] at h1
      first | rw [nI_le_iff (by omega) (by omega)] at h1 | rw [nI_lt_iff (by omega) (by omega)] at h1 | rw [nI_eq_iff (by omega) (by omega)] at h1
      obtain rfl : i = 4 := by omega
      exact h
    · simp only [icP, ifP, iL, iM1] at h1
      try simp only [z_nI] at h1
      try simp only [nI_add, nI_mul] at h1
      first | rw [nI_le_iff (by omega) (by omega)] at h1 | rw [nI_lt_iff (by omega) (by omega)] at h1 | rw [nI_eq_iff (by omega) (by omega)] at h1
      have hp := prt_lt ha i
      have hq := prt_lt hb i
      have hl := mkR_lt a b i
      have hl2 : 2 ^ i ≤ 2 ^ 3 := Nat.pow_le_pow_right (by omega) (by omega)
      refine ⟨i, rfl, by omega, sOK_nI ha, i, rfl, by omega, sOK_nI hb, fun h2 => ?_, fun h2 => ?_⟩
      · have h2 : nI (pz (nI a) i) = nI (pz (nI b) i) := h2
        rw [pz_nI ha, pz_nI hb, nI_eq_iff (by omega) (by omega)] at h2
        refine ⟨4 - (i + 1), [some (.inl (nI a)), some (.inl (nI b)), some (.inl (nI (mkR a b (i + 1)))), some (.inl (nI (i + 1)))], by omega, ⟨rfl, rfl, ?_, inc_tv i, trivial⟩, i + 1, by omega, rfl, rfl, rfl, rfl, rfl, rfl, rfl⟩
        simp only [mkR, if_pos h2, Nat.or_zero]
      · have h2 : ¬ nI (pz (nI a) i) = nI (pz (nI b) i) := h2
        rw [pz_nI ha, pz_nI hb, nI_eq_iff (by omega) (by omega)] at h2
        refine ⟨4 - (i + 1), [some (.inl (nI a)), some (.inl (nI b)), some (.inl (nI (mkR a b (i + 1)))), some (.inl (nI (i + 1)))], by omega, ⟨rfl, rfl, ?_, inc_tv i, trivial⟩, i + 1, by omega, rfl, rfl, rfl, rfl, rfl, rfl, rfl⟩
        show (some (.inl (nI (mkR a b i) ||| (Int32.ofInt 1 <<< (nI i &&& 31)))) : Option TV) = _
        rw [shl1 (by omega), nI_or']
        simp only [mkR, if_neg h2]
/-- the state so far -/
def xF (a b m k : Nat) : Nat := prt (if m / 2 ^ k % 2 = 0 then a else b) k
def mxK (a b m : Nat) : Nat → Nat
  | 0 => 0
  | k + 1 => mxK a b m k + xF a b m k * 2 ^ (if k = 0 then 0 else if k = 1 then 5 else if k = 2 then 10 else 12)
theorem mxK_4 (a b m : Nat) : mxK a b m 4 = mxN a b m := by
  have e0 : xF a b m 0 = prt (if m % 2 = 0 then a else b) 0 := by
    unfold xF
    rw [show m / 2 ^ 0 = m by omega]
  have e1 : xF a b m 1 = prt (if m / 2 % 2 = 0 then a else b) 1 := rfl
  have e2 : xF a b m 2 = prt (if m / 4 % 2 = 0 then a else b) 2 := rfl
  have e3 : xF a b m 3 = prt (if m / 8 % 2 = 0 then a else b) 3 := rfl
  unfold mxN pkN
  rw [← e0, ← e1, ← e2, ← e3]
  show 0 + xF a b m 0 * 1 + xF a b m 1 * 32 + xF a b m 2 * 1024 + xF a b m 3 * 4096 = _
  omega
theorem mxK_lt {a b m : Nat} {k : Nat} (hk : k < 4) : mxK a b m k < 2 ^ (if k = 0 then 0 else if k = 1 then 5 else if k = 2 then 10 else 12) := by
  have h0 : xF a b m 0 < 32 := by unfold xF; simp only [prt]; omega
  have h1 : xF a b m 1 < 32 := by unfold xF; simp only [prt]; omega
  have h2 : xF a b m 2 < 4 := by unfold xF; simp only [prt]; omega
  match k, hk with
  | 0, _ => show 0 < 1; omega
  | 1, _ => show 0 + xF a b m 0 * 1 < 32; omega
  | 2, _ => show 0 + xF a b m 0 * 1 + xF a b m 1 * 32 < 1024; omega
  | 3, _ => show 0 + xF a b m 0 * 1 + xF a b m 1 * 32 + xF a b m 2 * 1024 < 4096; omega
theorem mbitK : ∀ m, m < 16 → ∀ k, k < 4 → ((nI m &&& (Int32.ofInt 1 <<< (nI k &&& 31)) = 0) ↔ m / 2 ^ k % 2 = 0) := by decide +kernel
def sp_X6_withParts : SPc := fun As μ K => match As with
  | [.inl s, .inl t, .inl w] => ∃ a b m : Nat, s = nI a ∧ t = nI b ∧ w = nI m ∧ a < 524288 ∧ b < 524288 ∧ m < 16 ∧ K (.inl (some (.inl (nI (mxN a b m))))) μ
  | _ => False
def wpL (a b m k : Nat) : LC := [some (.inl (nI a)), some (.inl (nI b)), some (.inl (nI m)), some (.inl (nI (mxK a b m k))), some (.inl (nI k)), none]
def ct_X6_withParts : List (Nat × CI) := [(18, ci_X6_part)]
def ci_X6_withParts : CI := (yX6_withParts, cX6_withParts, 6, some .int, 3, (1, 0, 0, 21), 0, [], sp_X6_withParts)
set_option maxRecDepth 100000 in
theorem ck_X6_withParts : chkM ci_X6_withParts RX6 co_X6_withParts ct_X6_withParts [] false false = true := by decide +kernel
set_option maxHeartbeats 4000000 in
set_option maxRecDepth 100000 in
theorem ms_X6_withParts {g : GPT} {ot : OT} {l : Launch} (hl : l.stackTraces = false) (hot : otOK ot) : MS g ot l ci_X6_withParts := by
  refine ms_of hl RX6 co_X6_withParts ct_X6_withParts [] false false [5] 36 ck_X6_withParts (List.forall_mem_cons.mpr ⟨ms_X6_part hl hot, fun _ h => nomatch h⟩) ?_
  intro As μ K h
  simp only [ci_X6_withParts, sp_X6_withParts] at h
  split at h
  case h_2 => exact h.elim
  obtain ⟨a, b, m, rfl, rfl, rfl, ha, hb, hm, h⟩ := h
  have l1 := hot.1
  refine ⟨Nat.le_of_ble_eq_true rfl, fun n pc lc st μ' ce sl => ∃ k, k ≤ 4 ∧ n = 4 - k ∧ pc = 5 ∧ lc = wpL a b m k ∧ st = [] ∧ μ' = μ ∧ ce = 0 ∧ sl = 0, ?_, ?_⟩
  · exact ⟨4, wpL a b m 0, ⟨rfl, rfl, rfl, rfl, rfl, trivial⟩, 0, Nat.zero_le _, rfl, rfl, rfl, rfl, rfl, rfl, rfl⟩
  · rintro n pc lc st μ' ce sl ⟨k, hk, rfl, rfl, rfl, rfl, rfl, rfl, rfl⟩
    refine ⟨fun h1 => ?_, fun h1 => ?_⟩
    · simp only [icP, ifP, iL, iM1] at h1
      try simp only [z_nI] at h1
      try simp only [nI_add, nI_mul] at h1
      first | rw [nI_le_iff (by omega) (by omega)] at h1 | rw [nI_lt_iff (by omega) (by omega)] at h1 | rw [nI_eq_iff (by omega) (by omega)] at h1
      obtain rfl : k = 4 := by omega
      rw [← mxK_4] at h
      exact h
    · simp only [icP, ifP, iL, iM1] at h1
      try simp only [z_nI] at h1
      try simp only [nI_add, nI_mul] at h1
      first | rw [nI_le_iff (by omega) (by omega)] at h1 | rw [nI_lt_iff (by omega) (by omega)] at h1 | rw [nI_eq_iff (by omega) (by omega)] at h1
      have fin : ∀ x : Nat, x < 524288 → x = (if m / 2 ^ k % 2 = 0 then a else b) → (some (.inl (nI (mxK a b m k) ||| nI (pz (nI x) k) <<< (ot.2 91 k &&& 31))) : Option TV) = some (.inl (nI (mxK a b m (k + 1)))) := fun x hx he => by
        have hp := prt_lt hx k
        have hsh := sh_ot hot (k := k) (by omega)
        have hp12 : 2 ^ (if k = 0 then 0 else if k = 1 then 5 else if k = 2 then 10 else 12) ≤ 2 ^ 12 := Nat.pow_le_pow_right (by omega) (by split <;> (try split) <;> (try split) <;> omega)
        rw [pz_nI hx, shN _ _ _ hsh (by
          have := Nat.mul_lt_mul_of_lt_of_le hp hp12 (by omega)
          omega), nI_or', or_add _ _ (mxK_lt (by omega)), he]
        rfl
      refine ⟨fun h2 => ?_, fun h2 => ?_⟩
      · have h2 := (mbitK m hm k (by omega)).mp h2
        exact ⟨k, rfl, by omega, sOK_nI ha, fun _ => ⟨k, rfl, by omega, 4 - (k + 1), wpL a b m (k + 1), by omega, ⟨rfl, rfl, rfl, fin a ha (if_pos h2).symm, inc_tv k, trivial⟩, k + 1, by omega, rfl, rfl, rfl, rfl, rfl, rfl, rfl⟩⟩
      · have h2 : ¬ m / 2 ^ k % 2 = 0 := fun q => h2 ((mbitK m hm k (by omega)).mpr q)
        exact ⟨k, rfl, by omega, sOK_nI hb, fun _ => ⟨k, rfl, by omega, 4 - (k + 1), wpL a b m (k + 1), by omega, ⟨rfl, rfl, rfl, fin b hb (if_neg h2).symm, inc_tv k, trivial⟩, k + 1, by omega, rfl, rfl, rfl, rfl, rfl, rfl, rfl⟩⟩
end
