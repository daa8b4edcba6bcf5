section
-- ===== PART A: goes FIRST, ahead of the names: the tables' words, and 'selects' of the private methods out of them =====
/-- a private method of a class that the tables say can be made, by its rows of tables_1 -/
def lw_okq (q : MethodName × Nat) : Prop := (q.1.cls ≠ "java/lang/invoke/MethodHandle" ∧ q.1.cls ≠ "java/lang/invoke/VarHandle") ∧ Cond.instantiable q.1.cls q.2 ∈ tables_1 ∧ Cond.privateMethod q.1 ∈ tables_1 ∧ Cond.instanceMethod q.1 ∈ tables_1
theorem lw_p0 : lw_okq (⟨"LampLine", "runFrame", "()V"⟩, 13) := ⟨⟨by decide +kernel, by decide +kernel⟩, List.mem_of_getElem? (i := 17) (by decide +kernel), List.mem_of_getElem? (i := 194) (by decide +kernel), List.mem_of_getElem? (i := 195) (by decide +kernel)⟩
theorem lw_p1 : lw_okq (⟨"LampLine$Lamp", "speaksToSearch", "(LLampLine$Packet;LLampLine$Packet;LLampLine$Row;)Z"⟩, 15) := ⟨⟨by decide +kernel, by decide +kernel⟩, List.mem_of_getElem? (i := 264) (by decide +kernel), List.mem_of_getElem? (i := 262) (by decide +kernel), List.mem_of_getElem? (i := 263) (by decide +kernel)⟩
theorem lw_p2 : lw_okq (⟨"LampLine$Lamp", "speaksToOrder", "(LLampLine$Packet;LLampLine$Packet;LLampLine$Row;I)Z"⟩, 15) := ⟨⟨by decide +kernel, by decide +kernel⟩, List.mem_of_getElem? (i := 264) (by decide +kernel), List.mem_of_getElem? (i := 293) (by decide +kernel), List.mem_of_getElem? (i := 294) (by decide +kernel)⟩
theorem lw_p3 : lw_okq (⟨"LampLine$Lamp", "valueRefusal", "(LLampLine$Packet;Z)I"⟩, 15) := ⟨⟨by decide +kernel, by decide +kernel⟩, List.mem_of_getElem? (i := 264) (by decide +kernel), List.mem_of_getElem? (i := 305) (by decide +kernel), List.mem_of_getElem? (i := 306) (by decide +kernel)⟩
theorem lw_p4 : lw_okq (⟨"LampLine$Lamp", "obey", "(LLampLine$Packet;LLampLine$Packet;ZI)V"⟩, 15) := ⟨⟨by decide +kernel, by decide +kernel⟩, List.mem_of_getElem? (i := 264) (by decide +kernel), List.mem_of_getElem? (i := 316) (by decide +kernel), List.mem_of_getElem? (i := 317) (by decide +kernel)⟩
theorem lw_p5 : lw_okq (⟨"LampLine$Lamp", "tell", "(ILLampLine$Packet;)V"⟩, 15) := ⟨⟨by decide +kernel, by decide +kernel⟩, List.mem_of_getElem? (i := 264) (by decide +kernel), List.mem_of_getElem? (i := 321) (by decide +kernel), List.mem_of_getElem? (i := 322) (by decide +kernel)⟩
theorem lw_p6 : lw_okq (⟨"LampLine", "writeSearch", "(JI)V"⟩, 13) := ⟨⟨by decide +kernel, by decide +kernel⟩, List.mem_of_getElem? (i := 17) (by decide +kernel), List.mem_of_getElem? (i := 359) (by decide +kernel), List.mem_of_getElem? (i := 360) (by decide +kernel)⟩
theorem lw_p7 : lw_okq (⟨"LampLine", "beginQuestion", "(JII)V"⟩, 13) := ⟨⟨by decide +kernel, by decide +kernel⟩, List.mem_of_getElem? (i := 17) (by decide +kernel), List.mem_of_getElem? (i := 363) (by decide +kernel), List.mem_of_getElem? (i := 364) (by decide +kernel)⟩
theorem lw_p8 : lw_okq (⟨"java/lang/Throwable", "fillInStackTrace", "(I)Ljava/lang/Throwable;"⟩, 6) := ⟨⟨by decide +kernel, by decide +kernel⟩, List.mem_of_getElem? (i := 420) (by decide +kernel), List.mem_of_getElem? (i := 418) (by decide +kernel), List.mem_of_getElem? (i := 419) (by decide +kernel)⟩
theorem lw_p9 : lw_okq (⟨"LampLine", "isThere", "(J)Z"⟩, 13) := ⟨⟨by decide +kernel, by decide +kernel⟩, List.mem_of_getElem? (i := 17) (by decide +kernel), List.mem_of_getElem? (i := 456) (by decide +kernel), List.mem_of_getElem? (i := 457) (by decide +kernel)⟩
theorem lw_p10 : lw_okq (⟨"LampLine", "isReplyFrom", "(J)Z"⟩, 13) := ⟨⟨by decide +kernel, by decide +kernel⟩, List.mem_of_getElem? (i := 17) (by decide +kernel), List.mem_of_getElem? (i := 585) (by decide +kernel), List.mem_of_getElem? (i := 586) (by decide +kernel)⟩
theorem lw_p11 : lw_okq (⟨"LampLine$Spoils", "dropFirst", "()V"⟩, 3) := ⟨⟨by decide +kernel, by decide +kernel⟩, List.mem_of_getElem? (i := 90) (by decide +kernel), List.mem_of_getElem? (i := 601) (by decide +kernel), List.mem_of_getElem? (i := 602) (by decide +kernel)⟩
theorem lw_p12 : lw_okq (⟨"LampLine", "lampAt", "(I)LLampLine$Lamp;"⟩, 13) := ⟨⟨by decide +kernel, by decide +kernel⟩, List.mem_of_getElem? (i := 17) (by decide +kernel), List.mem_of_getElem? (i := 612) (by decide +kernel), List.mem_of_getElem? (i := 613) (by decide +kernel)⟩
theorem lw_p13 : lw_okq (⟨"LampLine$Lamp", "isDark", "(I)Z"⟩, 15) := ⟨⟨by decide +kernel, by decide +kernel⟩, List.mem_of_getElem? (i := 264) (by decide +kernel), List.mem_of_getElem? (i := 622) (by decide +kernel), List.mem_of_getElem? (i := 623) (by decide +kernel)⟩
theorem lw_p14 : lw_okq (⟨"LampLine", "takeStep", "()V"⟩, 13) := ⟨⟨by decide +kernel, by decide +kernel⟩, List.mem_of_getElem? (i := 17) (by decide +kernel), List.mem_of_getElem? (i := 672) (by decide +kernel), List.mem_of_getElem? (i := 673) (by decide +kernel)⟩
theorem lw_p15 : lw_okq (⟨"LampLine", "tryId", "(J)I"⟩, 13) := ⟨⟨by decide +kernel, by decide +kernel⟩, List.mem_of_getElem? (i := 17) (by decide +kernel), List.mem_of_getElem? (i := 689) (by decide +kernel), List.mem_of_getElem? (i := 690) (by decide +kernel)⟩
def lw_privs_1 : List (MethodName × Nat) := [(⟨"LampLine", "runFrame", "()V"⟩, 13), (⟨"LampLine$Lamp", "speaksToSearch", "(LLampLine$Packet;LLampLine$Packet;LLampLine$Row;)Z"⟩, 15), (⟨"LampLine$Lamp", "speaksToOrder", "(LLampLine$Packet;LLampLine$Packet;LLampLine$Row;I)Z"⟩, 15), (⟨"LampLine$Lamp", "valueRefusal", "(LLampLine$Packet;Z)I"⟩, 15), (⟨"LampLine$Lamp", "obey", "(LLampLine$Packet;LLampLine$Packet;ZI)V"⟩, 15), (⟨"LampLine$Lamp", "tell", "(ILLampLine$Packet;)V"⟩, 15), (⟨"LampLine", "writeSearch", "(JI)V"⟩, 13), (⟨"LampLine", "beginQuestion", "(JII)V"⟩, 13), (⟨"java/lang/Throwable", "fillInStackTrace", "(I)Ljava/lang/Throwable;"⟩, 6), (⟨"LampLine", "isThere", "(J)Z"⟩, 13), (⟨"LampLine", "isReplyFrom", "(J)Z"⟩, 13), (⟨"LampLine$Spoils", "dropFirst", "()V"⟩, 3), (⟨"LampLine", "lampAt", "(I)LLampLine$Lamp;"⟩, 13), (⟨"LampLine$Lamp", "isDark", "(I)Z"⟩, 15), (⟨"LampLine", "takeStep", "()V"⟩, 13), (⟨"LampLine", "tryId", "(J)I"⟩, 13)]
theorem lw_r1 : ∀ q ∈ lw_privs_1, lw_okq q := List.forall_mem_cons.mpr ⟨lw_p0, List.forall_mem_cons.mpr ⟨lw_p1, List.forall_mem_cons.mpr ⟨lw_p2, List.forall_mem_cons.mpr ⟨lw_p3, List.forall_mem_cons.mpr ⟨lw_p4, List.forall_mem_cons.mpr ⟨lw_p5, List.forall_mem_cons.mpr ⟨lw_p6, List.forall_mem_cons.mpr ⟨lw_p7, List.forall_mem_cons.mpr ⟨lw_p8, List.forall_mem_cons.mpr ⟨lw_p9, List.forall_mem_cons.mpr ⟨lw_p10, List.forall_mem_cons.mpr ⟨lw_p11, List.forall_mem_cons.mpr ⟨lw_p12, List.forall_mem_cons.mpr ⟨lw_p13, List.forall_mem_cons.mpr ⟨lw_p14, List.forall_mem_cons.mpr ⟨lw_p15, fun _ h => absurd h List.not_mem_nil⟩⟩⟩⟩⟩⟩⟩⟩⟩⟩⟩⟩⟩⟩⟩⟩
theorem lw_p16 : lw_okq (⟨"LampLine", "writeBranchSearch", "(JJ)V"⟩, 13) := ⟨⟨by decide +kernel, by decide +kernel⟩, List.mem_of_getElem? (i := 17) (by decide +kernel), List.mem_of_getElem? (i := 702) (by decide +kernel), List.mem_of_getElem? (i := 703) (by decide +kernel)⟩
theorem lw_p17 : lw_okq (⟨"LampLineModel", "goes", "(Z)Z"⟩, 39) := ⟨⟨by decide +kernel, by decide +kernel⟩, List.mem_of_getElem? (i := 730) (by decide +kernel), List.mem_of_getElem? (i := 874) (by decide +kernel), List.mem_of_getElem? (i := 875) (by decide +kernel)⟩
theorem lw_p18 : lw_okq (⟨"LampLineModel", "look", "()V"⟩, 39) := ⟨⟨by decide +kernel, by decide +kernel⟩, List.mem_of_getElem? (i := 730) (by decide +kernel), List.mem_of_getElem? (i := 886) (by decide +kernel), List.mem_of_getElem? (i := 887) (by decide +kernel)⟩
theorem lw_p19 : lw_okq (⟨"LampLineModel", "doDue", "()V"⟩, 39) := ⟨⟨by decide +kernel, by decide +kernel⟩, List.mem_of_getElem? (i := 730) (by decide +kernel), List.mem_of_getElem? (i := 890) (by decide +kernel), List.mem_of_getElem? (i := 891) (by decide +kernel)⟩
theorem lw_p20 : lw_okq (⟨"LampLineModel", "at", "(I)I"⟩, 39) := ⟨⟨by decide +kernel, by decide +kernel⟩, List.mem_of_getElem? (i := 730) (by decide +kernel), List.mem_of_getElem? (i := 894) (by decide +kernel), List.mem_of_getElem? (i := 895) (by decide +kernel)⟩
theorem lw_p21 : lw_okq (⟨"LampLineModel", "takeLevels", "(I)V"⟩, 39) := ⟨⟨by decide +kernel, by decide +kernel⟩, List.mem_of_getElem? (i := 730) (by decide +kernel), List.mem_of_getElem? (i := 898) (by decide +kernel), List.mem_of_getElem? (i := 899) (by decide +kernel)⟩
theorem lw_p22 : lw_okq (⟨"LampLineModel", "footprint", "(I)I"⟩, 39) := ⟨⟨by decide +kernel, by decide +kernel⟩, List.mem_of_getElem? (i := 730) (by decide +kernel), List.mem_of_getElem? (i := 902) (by decide +kernel), List.mem_of_getElem? (i := 903) (by decide +kernel)⟩
theorem lw_p23 : lw_okq (⟨"LampLineModel", "isPacket", "()Z"⟩, 39) := ⟨⟨by decide +kernel, by decide +kernel⟩, List.mem_of_getElem? (i := 730) (by decide +kernel), List.mem_of_getElem? (i := 906) (by decide +kernel), List.mem_of_getElem? (i := 907) (by decide +kernel)⟩
theorem lw_p24 : lw_okq (⟨"LampLineModel", "two", "(I)I"⟩, 39) := ⟨⟨by decide +kernel, by decide +kernel⟩, List.mem_of_getElem? (i := 730) (by decide +kernel), List.mem_of_getElem? (i := 911) (by decide +kernel), List.mem_of_getElem? (i := 912) (by decide +kernel)⟩
theorem lw_p25 : lw_okq (⟨"LampLineModel", "six", "(I)J"⟩, 39) := ⟨⟨by decide +kernel, by decide +kernel⟩, List.mem_of_getElem? (i := 730) (by decide +kernel), List.mem_of_getElem? (i := 915) (by decide +kernel), List.mem_of_getElem? (i := 916) (by decide +kernel)⟩
theorem lw_p26 : lw_okq (⟨"LampLineModel", "ownId", "(I)J"⟩, 39) := ⟨⟨by decide +kernel, by decide +kernel⟩, List.mem_of_getElem? (i := 730) (by decide +kernel), List.mem_of_getElem? (i := 920) (by decide +kernel), List.mem_of_getElem? (i := 921) (by decide +kernel)⟩
theorem lw_p27 : lw_okq (⟨"LampLineModel", "hear", "(IZ)V"⟩, 39) := ⟨⟨by decide +kernel, by decide +kernel⟩, List.mem_of_getElem? (i := 730) (by decide +kernel), List.mem_of_getElem? (i := 929) (by decide +kernel), List.mem_of_getElem? (i := 930) (by decide +kernel)⟩
theorem lw_p28 : lw_okq (⟨"LampLineModel", "hearSearch", "(IZ)V"⟩, 39) := ⟨⟨by decide +kernel, by decide +kernel⟩, List.mem_of_getElem? (i := 730) (by decide +kernel), List.mem_of_getElem? (i := 933) (by decide +kernel), List.mem_of_getElem? (i := 934) (by decide +kernel)⟩
theorem lw_p29 : lw_okq (⟨"LampLineModel", "show", "(J)V"⟩, 39) := ⟨⟨by decide +kernel, by decide +kernel⟩, List.mem_of_getElem? (i := 730) (by decide +kernel), List.mem_of_getElem? (i := 937) (by decide +kernel), List.mem_of_getElem? (i := 938) (by decide +kernel)⟩
theorem lw_p30 : lw_okq (⟨"LampLineModel", "put", "(I)V"⟩, 39) := ⟨⟨by decide +kernel, by decide +kernel⟩, List.mem_of_getElem? (i := 730) (by decide +kernel), List.mem_of_getElem? (i := 941) (by decide +kernel), List.mem_of_getElem? (i := 942) (by decide +kernel)⟩
theorem lw_p31 : lw_okq (⟨"LampLineModel", "begin", "(IIII)V"⟩, 39) := ⟨⟨by decide +kernel, by decide +kernel⟩, List.mem_of_getElem? (i := 730) (by decide +kernel), List.mem_of_getElem? (i := 945) (by decide +kernel), List.mem_of_getElem? (i := 946) (by decide +kernel)⟩
def lw_privs_2 : List (MethodName × Nat) := [(⟨"LampLine", "writeBranchSearch", "(JJ)V"⟩, 13), (⟨"LampLineModel", "goes", "(Z)Z"⟩, 39), (⟨"LampLineModel", "look", "()V"⟩, 39), (⟨"LampLineModel", "doDue", "()V"⟩, 39), (⟨"LampLineModel", "at", "(I)I"⟩, 39), (⟨"LampLineModel", "takeLevels", "(I)V"⟩, 39), (⟨"LampLineModel", "footprint", "(I)I"⟩, 39), (⟨"LampLineModel", "isPacket", "()Z"⟩, 39), (⟨"LampLineModel", "two", "(I)I"⟩, 39), (⟨"LampLineModel", "six", "(I)J"⟩, 39), (⟨"LampLineModel", "ownId", "(I)J"⟩, 39), (⟨"LampLineModel", "hear", "(IZ)V"⟩, 39), (⟨"LampLineModel", "hearSearch", "(IZ)V"⟩, 39), (⟨"LampLineModel", "show", "(J)V"⟩, 39), (⟨"LampLineModel", "put", "(I)V"⟩, 39), (⟨"LampLineModel", "begin", "(IIII)V"⟩, 39)]
theorem lw_r2 : ∀ q ∈ lw_privs_2, lw_okq q := List.forall_mem_cons.mpr ⟨lw_p16, List.forall_mem_cons.mpr ⟨lw_p17, List.forall_mem_cons.mpr ⟨lw_p18, List.forall_mem_cons.mpr ⟨lw_p19, List.forall_mem_cons.mpr ⟨lw_p20, List.forall_mem_cons.mpr ⟨lw_p21, List.forall_mem_cons.mpr ⟨lw_p22, List.forall_mem_cons.mpr ⟨lw_p23, List.forall_mem_cons.mpr ⟨lw_p24, List.forall_mem_cons.mpr ⟨lw_p25, List.forall_mem_cons.mpr ⟨lw_p26, List.forall_mem_cons.mpr ⟨lw_p27, List.forall_mem_cons.mpr ⟨lw_p28, List.forall_mem_cons.mpr ⟨lw_p29, List.forall_mem_cons.mpr ⟨lw_p30, List.forall_mem_cons.mpr ⟨lw_p31, fun _ h => absurd h List.not_mem_nil⟩⟩⟩⟩⟩⟩⟩⟩⟩⟩⟩⟩⟩⟩⟩⟩
theorem lw_p32 : lw_okq (⟨"LampLineModel", "putId", "(J)V"⟩, 39) := ⟨⟨by decide +kernel, by decide +kernel⟩, List.mem_of_getElem? (i := 730) (by decide +kernel), List.mem_of_getElem? (i := 949) (by decide +kernel), List.mem_of_getElem? (i := 950) (by decide +kernel)⟩
theorem lw_p33 : lw_okq (⟨"LampLineModel", "putTwo", "(I)V"⟩, 39) := ⟨⟨by decide +kernel, by decide +kernel⟩, List.mem_of_getElem? (i := 730) (by decide +kernel), List.mem_of_getElem? (i := 953) (by decide +kernel), List.mem_of_getElem? (i := 954) (by decide +kernel)⟩
theorem lw_p34 : lw_okq (⟨"LampLineModel", "finish", "(I)V"⟩, 39) := ⟨⟨by decide +kernel, by decide +kernel⟩, List.mem_of_getElem? (i := 730) (by decide +kernel), List.mem_of_getElem? (i := 957) (by decide +kernel), List.mem_of_getElem? (i := 958) (by decide +kernel)⟩
theorem lw_p35 : lw_okq (⟨"LampLineModel", "waiting", "(I)I"⟩, 39) := ⟨⟨by decide +kernel, by decide +kernel⟩, List.mem_of_getElem? (i := 730) (by decide +kernel), List.mem_of_getElem? (i := 961) (by decide +kernel), List.mem_of_getElem? (i := 962) (by decide +kernel)⟩
theorem lw_p36 : lw_okq (⟨"LampLineModel", "get", "(I)V"⟩, 39) := ⟨⟨by decide +kernel, by decide +kernel⟩, List.mem_of_getElem? (i := 730) (by decide +kernel), List.mem_of_getElem? (i := 965) (by decide +kernel), List.mem_of_getElem? (i := 966) (by decide +kernel)⟩
theorem lw_p37 : lw_okq (⟨"LampLineModel", "refuse", "(IZI)V"⟩, 39) := ⟨⟨by decide +kernel, by decide +kernel⟩, List.mem_of_getElem? (i := 730) (by decide +kernel), List.mem_of_getElem? (i := 969) (by decide +kernel), List.mem_of_getElem? (i := 970) (by decide +kernel)⟩
theorem lw_p38 : lw_okq (⟨"LampLineModel", "getWaiting", "(I)V"⟩, 39) := ⟨⟨by decide +kernel, by decide +kernel⟩, List.mem_of_getElem? (i := 730) (by decide +kernel), List.mem_of_getElem? (i := 976) (by decide +kernel), List.mem_of_getElem? (i := 977) (by decide +kernel)⟩
theorem lw_p39 : lw_okq (⟨"LampLineModel", "tell", "(II)V"⟩, 39) := ⟨⟨by decide +kernel, by decide +kernel⟩, List.mem_of_getElem? (i := 730) (by decide +kernel), List.mem_of_getElem? (i := 980) (by decide +kernel), List.mem_of_getElem? (i := 981) (by decide +kernel)⟩
theorem lw_p40 : lw_okq (⟨"LampLineModel", "set", "(IZ)V"⟩, 39) := ⟨⟨by decide +kernel, by decide +kernel⟩, List.mem_of_getElem? (i := 730) (by decide +kernel), List.mem_of_getElem? (i := 984) (by decide +kernel), List.mem_of_getElem? (i := 985) (by decide +kernel)⟩
theorem lw_p41 : lw_okq (⟨"LampLineModel", "mayBe", "(III)Z"⟩, 39) := ⟨⟨by decide +kernel, by decide +kernel⟩, List.mem_of_getElem? (i := 730) (by decide +kernel), List.mem_of_getElem? (i := 989) (by decide +kernel), List.mem_of_getElem? (i := 990) (by decide +kernel)⟩
theorem lw_p42 : lw_okq (⟨"LampLineModel", "setLabel", "(IZI)V"⟩, 39) := ⟨⟨by decide +kernel, by decide +kernel⟩, List.mem_of_getElem? (i := 730) (by decide +kernel), List.mem_of_getElem? (i := 995) (by decide +kernel), List.mem_of_getElem? (i := 996) (by decide +kernel)⟩
theorem lw_p43 : lw_okq (⟨"LampLineModel", "fall", "()V"⟩, 39) := ⟨⟨by decide +kernel, by decide +kernel⟩, List.mem_of_getElem? (i := 730) (by decide +kernel), List.mem_of_getElem? (i := 999) (by decide +kernel), List.mem_of_getElem? (i := 1000) (by decide +kernel)⟩
theorem lw_p44 : lw_okq (⟨"LampLineModel", "beginPacket", "(JIII)V"⟩, 39) := ⟨⟨by decide +kernel, by decide +kernel⟩, List.mem_of_getElem? (i := 730) (by decide +kernel), List.mem_of_getElem? (i := 1012) (by decide +kernel), List.mem_of_getElem? (i := 1013) (by decide +kernel)⟩
theorem lw_p45 : lw_okq (⟨"LampLineModel", "write", "(I)V"⟩, 39) := ⟨⟨by decide +kernel, by decide +kernel⟩, List.mem_of_getElem? (i := 730) (by decide +kernel), List.mem_of_getElem? (i := 1016) (by decide +kernel), List.mem_of_getElem? (i := 1017) (by decide +kernel)⟩
theorem lw_p46 : lw_okq (⟨"LampLineModel", "writeSix", "(J)V"⟩, 39) := ⟨⟨by decide +kernel, by decide +kernel⟩, List.mem_of_getElem? (i := 730) (by decide +kernel), List.mem_of_getElem? (i := 1020) (by decide +kernel), List.mem_of_getElem? (i := 1021) (by decide +kernel)⟩
theorem lw_p47 : lw_okq (⟨"LampLineModel", "sendOff", "()V"⟩, 39) := ⟨⟨by decide +kernel, by decide +kernel⟩, List.mem_of_getElem? (i := 730) (by decide +kernel), List.mem_of_getElem? (i := 1024) (by decide +kernel), List.mem_of_getElem? (i := 1025) (by decide +kernel)⟩
def lw_privs_3 : List (MethodName × Nat) := [(⟨"LampLineModel", "putId", "(J)V"⟩, 39), (⟨"LampLineModel", "putTwo", "(I)V"⟩, 39), (⟨"LampLineModel", "finish", "(I)V"⟩, 39), (⟨"LampLineModel", "waiting", "(I)I"⟩, 39), (⟨"LampLineModel", "get", "(I)V"⟩, 39), (⟨"LampLineModel", "refuse", "(IZI)V"⟩, 39), (⟨"LampLineModel", "getWaiting", "(I)V"⟩, 39), (⟨"LampLineModel", "tell", "(II)V"⟩, 39), (⟨"LampLineModel", "set", "(IZ)V"⟩, 39), (⟨"LampLineModel", "mayBe", "(III)Z"⟩, 39), (⟨"LampLineModel", "setLabel", "(IZI)V"⟩, 39), (⟨"LampLineModel", "fall", "()V"⟩, 39), (⟨"LampLineModel", "beginPacket", "(JIII)V"⟩, 39), (⟨"LampLineModel", "write", "(I)V"⟩, 39), (⟨"LampLineModel", "writeSix", "(J)V"⟩, 39), (⟨"LampLineModel", "sendOff", "()V"⟩, 39)]
theorem lw_r3 : ∀ q ∈ lw_privs_3, lw_okq q := List.forall_mem_cons.mpr ⟨lw_p32, List.forall_mem_cons.mpr ⟨lw_p33, List.forall_mem_cons.mpr ⟨lw_p34, List.forall_mem_cons.mpr ⟨lw_p35, List.forall_mem_cons.mpr ⟨lw_p36, List.forall_mem_cons.mpr ⟨lw_p37, List.forall_mem_cons.mpr ⟨lw_p38, List.forall_mem_cons.mpr ⟨lw_p39, List.forall_mem_cons.mpr ⟨lw_p40, List.forall_mem_cons.mpr ⟨lw_p41, List.forall_mem_cons.mpr ⟨lw_p42, List.forall_mem_cons.mpr ⟨lw_p43, List.forall_mem_cons.mpr ⟨lw_p44, List.forall_mem_cons.mpr ⟨lw_p45, List.forall_mem_cons.mpr ⟨lw_p46, List.forall_mem_cons.mpr ⟨lw_p47, fun _ h => absurd h List.not_mem_nil⟩⟩⟩⟩⟩⟩⟩⟩⟩⟩⟩⟩⟩⟩⟩⟩
theorem lw_p48 : lw_okq (⟨"LampLineModel", "isReply", "(J)Z"⟩, 39) := ⟨⟨by decide +kernel, by decide +kernel⟩, List.mem_of_getElem? (i := 730) (by decide +kernel), List.mem_of_getElem? (i := 1028) (by decide +kernel), List.mem_of_getElem? (i := 1029) (by decide +kernel)⟩
theorem lw_p49 : lw_okq (⟨"LampLineModel", "heard", "(I)I"⟩, 39) := ⟨⟨by decide +kernel, by decide +kernel⟩, List.mem_of_getElem? (i := 730) (by decide +kernel), List.mem_of_getElem? (i := 1032) (by decide +kernel), List.mem_of_getElem? (i := 1033) (by decide +kernel)⟩
theorem lw_p50 : lw_okq (⟨"LampLineModel", "heardSix", "(I)J"⟩, 39) := ⟨⟨by decide +kernel, by decide +kernel⟩, List.mem_of_getElem? (i := 730) (by decide +kernel), List.mem_of_getElem? (i := 1036) (by decide +kernel), List.mem_of_getElem? (i := 1037) (by decide +kernel)⟩
theorem lw_p51 : lw_okq (⟨"LampLineModel", "isLamp", "(I)Z"⟩, 39) := ⟨⟨by decide +kernel, by decide +kernel⟩, List.mem_of_getElem? (i := 730) (by decide +kernel), List.mem_of_getElem? (i := 1053) (by decide +kernel), List.mem_of_getElem? (i := 1054) (by decide +kernel)⟩
theorem lw_p52 : lw_okq (⟨"LampLineModel", "stepOnce", "()V"⟩, 39) := ⟨⟨by decide +kernel, by decide +kernel⟩, List.mem_of_getElem? (i := 730) (by decide +kernel), List.mem_of_getElem? (i := 1085) (by decide +kernel), List.mem_of_getElem? (i := 1086) (by decide +kernel)⟩
theorem lw_p53 : lw_okq (⟨"LampLineModel", "tried", "(J)I"⟩, 39) := ⟨⟨by decide +kernel, by decide +kernel⟩, List.mem_of_getElem? (i := 730) (by decide +kernel), List.mem_of_getElem? (i := 1092) (by decide +kernel), List.mem_of_getElem? (i := 1093) (by decide +kernel)⟩
theorem lw_p54 : lw_okq (⟨"LampLineModel", "isFound", "(J)Z"⟩, 39) := ⟨⟨by decide +kernel, by decide +kernel⟩, List.mem_of_getElem? (i := 730) (by decide +kernel), List.mem_of_getElem? (i := 1096) (by decide +kernel), List.mem_of_getElem? (i := 1097) (by decide +kernel)⟩
theorem lw_p55 : lw_okq (⟨"LampLineModel", "push", "(JJ)V"⟩, 39) := ⟨⟨by decide +kernel, by decide +kernel⟩, List.mem_of_getElem? (i := 730) (by decide +kernel), List.mem_of_getElem? (i := 1100) (by decide +kernel), List.mem_of_getElem? (i := 1101) (by decide +kernel)⟩
theorem lw_p56 : lw_okq (⟨"LampLineModel", "shown", "()J"⟩, 39) := ⟨⟨by decide +kernel, by decide +kernel⟩, List.mem_of_getElem? (i := 730) (by decide +kernel), List.mem_of_getElem? (i := 1104) (by decide +kernel), List.mem_of_getElem? (i := 1105) (by decide +kernel)⟩
def lw_privs_4 : List (MethodName × Nat) := [(⟨"LampLineModel", "isReply", "(J)Z"⟩, 39), (⟨"LampLineModel", "heard", "(I)I"⟩, 39), (⟨"LampLineModel", "heardSix", "(I)J"⟩, 39), (⟨"LampLineModel", "isLamp", "(I)Z"⟩, 39), (⟨"LampLineModel", "stepOnce", "()V"⟩, 39), (⟨"LampLineModel", "tried", "(J)I"⟩, 39), (⟨"LampLineModel", "isFound", "(J)Z"⟩, 39), (⟨"LampLineModel", "push", "(JJ)V"⟩, 39), (⟨"LampLineModel", "shown", "()J"⟩, 39)]
theorem lw_r4 : ∀ q ∈ lw_privs_4, lw_okq q := List.forall_mem_cons.mpr ⟨lw_p48, List.forall_mem_cons.mpr ⟨lw_p49, List.forall_mem_cons.mpr ⟨lw_p50, List.forall_mem_cons.mpr ⟨lw_p51, List.forall_mem_cons.mpr ⟨lw_p52, List.forall_mem_cons.mpr ⟨lw_p53, List.forall_mem_cons.mpr ⟨lw_p54, List.forall_mem_cons.mpr ⟨lw_p55, List.forall_mem_cons.mpr ⟨lw_p56, fun _ h => absurd h List.not_mem_nil⟩⟩⟩⟩⟩⟩⟩⟩⟩
def lw_privs : List (MethodName × Nat) := lw_privs_1 ++ (lw_privs_2 ++ (lw_privs_3 ++ (lw_privs_4)))
def lw_tbl : List Cond := k2_sels lw_privs ++ tables_1
theorem lw_privs_ok : ∀ q ∈ lw_privs, lw_okq q := by
  show ∀ q ∈ lw_privs_1 ++ (lw_privs_2 ++ (lw_privs_3 ++ (lw_privs_4))), lw_okq q
  exact List.forall_mem_append.mpr ⟨lw_r1, List.forall_mem_append.mpr ⟨lw_r2, List.forall_mem_append.mpr ⟨lw_r3, lw_r4⟩⟩⟩
end
section
/-! ===== BEGIN words of one list among another's, by their places ===== -/
theorem goodIn_r {big : List Cond} (ws : List Cond) (ps : List Nat) (hp : ws = ps.filterMap (fun i => big[i]?)) (h : ws.all goodWord = true) : GoodIn big ws := by
  intro w hw
  have h1 := List.all_eq_true.mp h w hw
  rw [hp] at hw
  obtain ⟨i, -, hi⟩ := List.mem_filterMap.mp hw
  have hm : w ∈ big := by first | exact List.mem_of_getElem? hi | exact List.getElem?_mem hi
  exact ⟨hm, good_of_word h1⟩
theorem goodIn_app {big a b : List Cond} (ha : GoodIn big a) (hb : GoodIn big b) : GoodIn big (a ++ b) := fun w h => (List.mem_append.mp h).elim (ha w) (hb w)
theorem goodIn_ca {big a b : List Cond} {c : Cond} (ha : GoodIn big (c :: a)) (hb : GoodIn big b) : GoodIn big (c :: (a ++ b)) := fun w h => (List.mem_cons.mp h).elim (fun e => ha w (List.mem_cons.mpr (Or.inl e))) (fun h => (List.mem_append.mp h).elim (fun h => ha w (List.mem_cons.mpr (Or.inr h))) (hb w))
theorem goodIn_sub {big ws : List Cond} (hm : ∀ w ∈ ws, w ∈ big) (h : ws.all goodWord = true) : GoodIn big ws := fun w hw => ⟨hm w hw, good_of_word (List.all_eq_true.mp h w hw)⟩
/-! ===== END ===== -/

/-! ===== BEGIN exceptions that leave a method, and their catching by the caller (launches without stack traces) ===== -/
section VXA
/-! The laws vx_back, vx_callV, vx_callS, vx_callSW, vx_throw0, vx_throwS follow proofs of the library, with one case more: JvmDerived/Free/Laws.lean (Back.of_free), Shelf42/LK1.lean (callV, callS), Shelf/KitTraced.lean (throwNew0V, throwNewS). -/
--
/-- where a method has thrown q: the class by its name, the cell, what was written, the world -/
def vx_T (XC : String → State → State → Prop) (st : State) (q : Addr) (t : State) (mc ms : Nat) (free : Addr → Prop) : Prop :=
  ∃ (E : String) (ce : Cell) (L : List Loc), XC E st t ∧ t.heap[q]? = some ce ∧ ce.vm = .none ∧ st.vm.findClass E = some ce.cls ∧ st.WarmedH t.vm ∧ st.sameButNew ({ t with vm := st.vm } : State) L mc ms ∧ ∀ z ∈ L, free z.base
def vx_Q (Qc : Array Value → State → Outcome → State → Prop) (XC : String → State → State → Prop) (mc ms : Nat) (free : Addr → Prop) : Array Value → State → Outcome → State → Prop := fun a st o t =>
  (Qc a st o t ∧ ∃ L, FrameEnd st o t L mc ms ∧ ∀ q ∈ L, free q.base) ∨ ∃ q, o = .threw q ∧ vx_T XC st q t mc ms free
/-- a callee that returns or throws -/
def vx_Met (l : Launch) (y : MethodName) (ws : List Cond) (rm : Room) (Pc : Array Value → State → Prop) (Qc : Array Value → State → Outcome → State → Prop) (XC : String → State → State → Prop) (mc ms : Nat) (free : Addr → Prop) : Prop :=
  MetFree l y (headSpec ws rm) Pc (fun _ _ _ _ _ => True) (vx_Q Qc XC mc ms free)
def vx_Post (XC : String → State → State → Prop) (mc ms : Nat) (free : Addr → Prop) : Pt → Array Value → Addr → Pt → Prop := fun A a q B =>
  ∃ (g : JFrame) (mk : MethodId) (t : State) (L : List Loc) (E : String) (ce : Cell), B.U.heap = t.heap ∧ B.U.vm = t.vm ∧ XC E (A.U.calling g mk a) t ∧ t.heap[q]? = some ce ∧ ce.vm = .none ∧ A.U.vm.findClass E = some ce.cls ∧ B.locs = A.locs ++ L ∧ (∀ z ∈ L, free z.base) ∧ B.cells = A.cells + mc ∧ B.slots = A.slots + ms
def vx_Back (l : Launch) (R : Room) (p : Program) (e : Env) (below : List Frame) (s : State) (sargs : Array Value) (y : MethodName) (len W9 : Nat)
    (Pre : Pt → Array Value → Prop) (Post : Pt → Array Value → Option Value → Pt → Prop) (PostX : Pt → Array Value → Addr → Pt → Prop) : Prop :=
  ∀ (m : MethodId) (meth : Method) (c : Code) (A : Pt) (g : JFrame) (ig : Instr) (mk : MethodId) (a : Array Value),
    Stand p l e R s m sargs below meth c A.U A.locs A.cells A.slots → g.method = m → g.locals.size = c.maxLocals → decode c.code g.pc = .ok (ig, len) →
    2 * g.monitorRoom + (g.stack.map fun v => v.category).sum ≤ W9 → A.U.methodNamed? y = some mk → Pre A a →
    (∃ (v : Option Value) (B : Pt), Stand p l e R s m sargs below meth c B.U B.locs B.cells B.slots ∧ Post A a v B ∧
      Steps p.tables e below (doInvoke e (A.U.setTop g) [] mk a).1 (B.U.setTop { g with pc := g.pc + len, stack := v.toList ++ g.stack })) ∨
    (∃ (q : Addr) (B : Pt), Stand p l e R s m sargs below meth c B.U B.locs B.cells B.slots ∧ PostX A a q B ∧
      Steps p.tables e below (doInvoke e (A.U.setTop g) [] mk a).1 ((B.U.setTop g).pushFrame (.throwing q)))
section Payer
variable {l : Launch} {R : Room} {p : Program} {e : Env} {below : List Frame} {s : State} {sargs : Array Value} {y : MethodName} {len W9 : Nat}
theorem vx_back {ws : List Cond} {rm : Room} {Pc : Array Value → State → Prop} {Qc : Array Value → State → Outcome → State → Prop} {XC : String → State → State → Prop} {mc ms : Nat} {free : Addr → Prop} {bytes : ByteArray} {maxL : Nat} {ret : Option FieldType}
    (hM : vx_Met l y ws rm Pc Qc XC mc ms free) (hblind : FrameBlind Pc) (hrc : rm.cells = mc) (hrs : rm.slots = ms)
    (hframes : rm.frames + 1 ≤ R.frames) (hlocals : W9 + (maxL + 11) + rm.locals ≤ R.locals)
    (hws : ∀ w ∈ ws, ∀ a' U, s.WarmedH U.vm → w.before a' U = true) (hcode : Cond.code y bytes maxL ret ∈ ws) (hinit : ∀ a' U, s.WarmedH U.vm → (Cond.initialized y.cls).before a' U = true) :
    vx_Back l R p e below s sargs y len W9 (PreOf R mc ms Pc) (PostOf Qc mc ms free) (vx_Post XC mc ms free) := by
  intro m meth c A g ig mk a X hg hsize hdg hW hn hp
  have h1 : (headSpec ws rm).pre.before a A.U = true := atoms_intro fun w hw => hws w hw _ _ X.warmed
  have h2 : (Cond.code y bytes maxL ret).before a A.U = true := hws _ hcode _ _ X.warmed
  have h3 : (Cond.initialized y.cls).before a A.U = true := hinit _ _ X.warmed
  have h4 : A.cells + (headSpec ws rm).room.cells ≤ R.cells := by rw [show (headSpec ws rm).room.cells = mc from hrc]; exact hp.1
  have h5 : A.slots + (headSpec ws rm).room.slots ≤ R.slots := by rw [show (headSpec ws rm).room.slots = ms from hrs]; exact hp.2.1
  have hPc : Pc a (A.U.calling g mk a) := hblind _ _ _ _ hp.2.2
  obtain ⟨U, Ls, c0, s0⟩ := A
  dsimp only [Pt.U, Pt.locs, Pt.cells, Pt.slots] at h1 h2 h3 h4 h5 X hn hPc ⊢
  obtain ⟨methY, cY, hmY, hcY, -, hlY, -, -, -, -⟩ := Cond.code_spec hn h2
  obtain ⟨kY, hkY, -⟩ := className_of_methodNamed hn
  have hinitY : kY.init = .initialized := Cond.initialized_spec (findClass_of_methodNamed hn) hkY h3
  have h : At U g.method c below := by rw [hg]; exact X.here
  have hlocals9 : W9 + (maxL + 11) + (headSpec ws rm).room.locals ≤ R.locals := hlocals
  have happ : (headSpec ws rm).appliesLoose y e.platform (U.calling g mk a) = true :=
    Spec.appliesLoose_calling (g := g) h hdg hn hkY hinitY
      (X.room_calling (g := g) (R' := (headSpec ws rm).room) hsize hmY hcY hframes (by rw [hlY]; omega) h4 h5) h1
  obtain ⟨mid, hmid⟩ := h.above
  have hfr : (U.setTop g).frames = (.java g :: mid) ++ below := by rw [State.frames_setTop' g h.top, hmid]; rfl
  obtain ⟨o, s₂, hsteps, -, hend, hq⟩ := Steps.callFree hM p X.admits X.cas X.clock (acts := []) hfr happ hPc trivial
  have hq' : vx_Q Qc XC mc ms free a (U.calling g mk a) o s₂ := hq
  rw [State.frames_setTop' g h.top] at hend
  obtain ⟨g₀, hg0⟩ := Option.isSome_iff_exists.mp h.top
  obtain ⟨r, hr⟩ := State.topJava?_eq_some.mp hg0
  have hr' : (({ U with heap := s₂.heap, slotsUsed := s₂.slotsUsed } : State).setVm s₂.vm).frames = .java g₀ :: r := hr
  rcases hq' with ⟨hqc, L, hfe, hL⟩ | ⟨q, rfl, E, ce, L, hx, hce, hcv, hcl, hW₂, hsm, hL⟩
  · obtain ⟨⟨v, rfl⟩, hW₂, e2, q2, q3, q4, q5, q6⟩ := id hfe
    have e3 : s₂ = ({ (U.calling g mk a).setFrames s₂.frames with heap := s₂.heap, slotsUsed := s₂.slotsUsed } : State).setVm s₂.vm := by
      have : s₂ = ({ s₂ with vm := (U.calling g mk a).vm } : State).setVm s₂.vm := rfl
      rw [e2] at this
      exact this
    obtain ⟨c₂, i₂, len₂, hc₂, hd₂, hf₂⟩ := hend
    have hW' : U.WarmedH s₂.vm := hW₂
    have hcc : c₂ = c := by
      have h1 : s₂.code? g.method = U.code? g.method := by
        rw [State.code?_eq, State.code?_eq, hW'.alike.method?]
      exact Option.some.inj (hc₂.symm.trans (h1.trans h.code))
    subst hcc
    have hlen : len₂ = len := by rw [hdg] at hd₂; cases hd₂; rfl
    subst hlen
    have hs₂ : s₂ = (({ U with heap := s₂.heap, slotsUsed := s₂.slotsUsed } : State).setVm s₂.vm).setTop { g with pc := g.pc + len₂, stack := v.toList ++ g.stack } := by
      refine e3.trans ?_
      rw [hf₂, State.calling_eq h.top, State.setFrames_setFrames, State.setTop_of_frames _ hr', hr]
      rfl
    have hsame : U.sameButNew ({ U with heap := s₂.heap, slotsUsed := s₂.slotsUsed } : State) L mc ms := by
      refine ⟨?_, q2, q3, q4, q5, q6⟩
      obtain ⟨t, ht, -⟩ := State.frames_cons hr
      show ({ U with heap := s₂.heap, slotsUsed := s₂.slotsUsed } : State) = { U.setFrames U.frames with heap := s₂.heap, slotsUsed := s₂.slotsUsed }
      rw [State.setFrames_self ht]
    subst hg
    refine Or.inl ⟨v, ⟨(({ U with heap := s₂.heap, slotsUsed := s₂.slotsUsed } : State).setVm s₂.vm), Ls ++ L, c0 + mc, s0 + ms⟩,
      ⟨X.admits, X.cas, X.clock, X.frames, X.room, X.hears, X.method, X.code, (X.here.setHeapUsed s₂.heap s₂.slotsUsed).setVm hW'.alike, X.tail, State.WarmedH.trans X.warmed hW', X.limits, X.bytes, X.same.trans (hsame.setVm s.vm)⟩,
      ⟨g, mk, s₂, L, rfl, rfl, hqc, rfl, hL, rfl, rfl⟩, ?_⟩
    show Steps p.tables e below _ ((({ U with heap := s₂.heap, slotsUsed := s₂.slotsUsed } : State).setVm s₂.vm).setTop { g with pc := g.pc + len₂, stack := v.toList ++ g.stack })
    rw [← hs₂]
    exact hsteps
  · obtain ⟨e2, q2, q3, q4, q5, q6⟩ := id hsm
    have e3 : s₂ = ({ (U.calling g mk a).setFrames s₂.frames with heap := s₂.heap, slotsUsed := s₂.slotsUsed } : State).setVm s₂.vm := by
      have : s₂ = ({ s₂ with vm := (U.calling g mk a).vm } : State).setVm s₂.vm := rfl
      rw [e2] at this
      exact this
    have hf₂ : s₂.frames = .throwing q :: .java g :: U.frames.tail := hend
    have hW' : U.WarmedH s₂.vm := hW₂
    have hs₂ : s₂ = ((({ U with heap := s₂.heap, slotsUsed := s₂.slotsUsed } : State).setVm s₂.vm).setTop g).pushFrame (.throwing q) := by
      refine e3.trans ?_
      rw [hf₂, State.calling_eq h.top, State.setFrames_setFrames, State.pushFrame, State.frames_setTop _ hr', State.setTop_of_frames _ hr', State.setFrames_setFrames, hr]
      rfl
    have hsame : U.sameButNew ({ U with heap := s₂.heap, slotsUsed := s₂.slotsUsed } : State) L mc ms := by
      refine ⟨?_, q2, q3, q4, q5, q6⟩
      obtain ⟨t, ht, -⟩ := State.frames_cons hr
      show ({ U with heap := s₂.heap, slotsUsed := s₂.slotsUsed } : State) = { U.setFrames U.frames with heap := s₂.heap, slotsUsed := s₂.slotsUsed }
      rw [State.setFrames_self ht]
    subst hg
    refine Or.inr ⟨q, ⟨(({ U with heap := s₂.heap, slotsUsed := s₂.slotsUsed } : State).setVm s₂.vm), Ls ++ L, c0 + mc, s0 + ms⟩,
      ⟨X.admits, X.cas, X.clock, X.frames, X.room, X.hears, X.method, X.code, (X.here.setHeapUsed s₂.heap s₂.slotsUsed).setVm hW'.alike, X.tail, State.WarmedH.trans X.warmed hW', X.limits, X.bytes, X.same.trans (hsame.setVm s.vm)⟩,
      ⟨g, mk, s₂, L, E, ce, rfl, rfl, hx, hce, hcv, hcl, rfl, hL, rfl, rfl⟩, ?_⟩
    show Steps p.tables e below _ (((({ U with heap := s₂.heap, slotsUsed := s₂.slotsUsed } : State).setVm s₂.vm).setTop g).pushFrame (.throwing q))
    rw [← hs₂]
    exact hsteps
end Payer
section Calls
variable {p : Program} {l : Launch} {e : Env} {R : Room} {s : State} {m : MethodId} {args : Array Value} {below : List Frame} {meth : Method} {c : Code} {T : State} {locs : List Loc} {cells slots : Nat}
theorem vx_callV (X : Stand p l e R s m args below meth c T locs cells slots) (hexec : p.tables.exec = Jvm.exec) {own C : String} {index : Nat} {y : MethodName} {bytes : ByteArray} {maxL : Nat} {ret : Option FieldType}
    (hown : s.vm.findClass own = some m.cls) (hlink : (Cond.methodLink own index y).before args s = true) (hinst : (Cond.instanceMethod y).before args s = true) (hsel : (Cond.selects C y y).before args s = true)
    (hcode : (Cond.code y bytes maxL ret).before args s = true) (hy : y.cls ≠ "java/lang/invoke/MethodHandle" ∧ y.cls ≠ "java/lang/invoke/VarHandle")
    {W9 : Nat} {Pre : Pt → Array Value → Prop} {Post : Pt → Array Value → Option Value → Pt → Prop} {PostX : Pt → Array Value → Addr → Pt → Prop} (hK : vx_Back l R p e below s args y 3 W9 Pre Post PostX)
    {b : Addr} {cellB : Cell} (hcell : T.heap[b]? = some cellB) (hobj : cellB.vm.isStatics = false) (hcls : s.vm.findClass C = some cellB.cls)
    {g : JFrame} (hg : g.method = m) (hsize : g.locals.size = c.maxLocals) {argsL rest : List Value} (hlen : ∀ sig, parseMethodDescriptor y.desc = some sig → argsL.length = sig.parameters.length)
    (hstack : g.stack = argsL.reverse ++ .ref b :: rest) (hW : 2 * g.monitorRoom + (rest.map fun v => v.category).sum ≤ W9) (hdg : decode c.code g.pc = .ok (.invokevirtual index, 3))
    (hpre : ∀ vm₁, s.WarmedH vm₁ → Pre ⟨T.setVm vm₁, locs, cells, slots⟩ (Value.ref b :: argsL).toArray) :
    (∃ (v : Option Value) (vm₁ : Vm) (B : Pt), s.WarmedH vm₁ ∧ Stand p l e R s m args below meth c B.U B.locs B.cells B.slots ∧ Post ⟨T.setVm vm₁, locs, cells, slots⟩ (Value.ref b :: argsL).toArray v B ∧
      ∀ target, Steps p.tables e below (B.U.setTop { g with pc := g.pc + 3, stack := v.toList ++ rest }) target → Steps p.tables e below (T.setTop g) target) ∨
    (∃ (q : Addr) (vm₁ : Vm) (B : Pt), s.WarmedH vm₁ ∧ Stand p l e R s m args below meth c B.U B.locs B.cells B.slots ∧ PostX ⟨T.setVm vm₁, locs, cells, slots⟩ (Value.ref b :: argsL).toArray q B ∧
      Steps p.tables e below (T.setTop g) ((B.U.setTop { g with stack := rest }).pushFrame (.throwing q))) := by
  obtain ⟨mk, methM, hnamed, hmethM, hstM, habM⟩ := Cond.instanceMethod_spec hinst
  obtain ⟨methM', cM, hmethM', -, -, -, -, -, -, hsigM⟩ := Cond.code_spec hnamed hcode
  cases hmethM.symm.trans hmethM'
  obtain ⟨c2, r2, m2, q1, q2, q3, q4, kP, hkP, hkPi⟩ := Cond.selects_spec hsel
  cases hcls.symm.trans q1
  cases (State.methodFound?_of_named hnamed hy).symm.trans q2
  cases hnamed.symm.trans q3
  have hselP : selectMethod e.platform s.vm cellB.cls mk = .method mk := by rw [Launch.admits_selectMethod X.admits]; exact q4
  obtain ⟨vm₁, X₁, hstep₁⟩ := X.invokevirtual hexec hown hlink hnamed hmethM hstM hkP hkPi hy (a := b) (cell := cellB) hcell
    (fun z h => by rw [h] at hobj; cases hobj) hselP hmethM habM hkP hkPi (g := g) hg (argsL := argsL) (rest := rest) (hlen _ hsigM) hstack hdg
  rcases hK m meth c ⟨T.setVm vm₁, locs, cells, slots⟩ { g with stack := rest } (.invokevirtual index) mk (Value.ref b :: argsL).toArray X₁ hg hsize hdg hW (X₁.named hnamed) (hpre vm₁ X₁.warmed) with ⟨v, B, X', hpost, hsteps⟩ | ⟨q, B, X', hpost, hsteps⟩
  · exact Or.inl ⟨v, vm₁, B, X₁.warmed, X', hpost, fun target h => hstep₁ _ fun acts => by rw [doInvoke_state]; exact hsteps.trans h⟩
  · exact Or.inr ⟨q, vm₁, B, X₁.warmed, X', hpost, hstep₁ _ fun acts => by rw [doInvoke_state]; exact hsteps⟩
theorem vx_callS (X : Stand p l e R s m args below meth c T locs cells slots) (hexec : p.tables.exec = Jvm.exec) {own : String} {index : Nat} {y : MethodName} {bytes : ByteArray} {maxL : Nat} {ret : Option FieldType}
    (hown : s.vm.findClass own = some m.cls) (hlink : (Cond.methodLink own index y).before args s = true) (hstat : (Cond.static y).before args s = true) (hinit : (Cond.initialized y.cls).before args s = true)
    (hcode : (Cond.code y bytes maxL ret).before args s = true) (hy : y.cls ≠ "java/lang/invoke/MethodHandle" ∧ y.cls ≠ "java/lang/invoke/VarHandle")
    {W9 : Nat} {Pre : Pt → Array Value → Prop} {Post : Pt → Array Value → Option Value → Pt → Prop} {PostX : Pt → Array Value → Addr → Pt → Prop} (hK : vx_Back l R p e below s args y 3 W9 Pre Post PostX)
    {g : JFrame} (hg : g.method = m) (hsize : g.locals.size = c.maxLocals) {argsL rest : List Value} (hlen : ∀ sig, parseMethodDescriptor y.desc = some sig → argsL.length = sig.parameters.length)
    (hstack : g.stack = argsL.reverse ++ rest) (hW : 2 * g.monitorRoom + (rest.map fun v => v.category).sum ≤ W9) (hdg : decode c.code g.pc = .ok (.invokestatic index, 3))
    (hpre : ∀ vm₁, s.WarmedH vm₁ → Pre ⟨T.setVm vm₁, locs, cells, slots⟩ argsL.toArray) :
    (∃ (v : Option Value) (vm₁ : Vm) (B : Pt), s.WarmedH vm₁ ∧ Stand p l e R s m args below meth c B.U B.locs B.cells B.slots ∧ Post ⟨T.setVm vm₁, locs, cells, slots⟩ argsL.toArray v B ∧
      ∀ target, Steps p.tables e below (B.U.setTop { g with pc := g.pc + 3, stack := v.toList ++ rest }) target → Steps p.tables e below (T.setTop g) target) ∨
    (∃ (q : Addr) (vm₁ : Vm) (B : Pt), s.WarmedH vm₁ ∧ Stand p l e R s m args below meth c B.U B.locs B.cells B.slots ∧ PostX ⟨T.setVm vm₁, locs, cells, slots⟩ argsL.toArray q B ∧
      Steps p.tables e below (T.setTop g) ((B.U.setTop { g with stack := rest }).pushFrame (.throwing q))) := by
  obtain ⟨mk, hnamed⟩ := Cond.code_named hcode
  obtain ⟨methM, cM, hmethM, -, -, -, -, -, -, hsigM⟩ := Cond.code_spec hnamed hcode
  have hstatic : methM.isStatic = true := Cond.static_spec hnamed hmethM hstat
  obtain ⟨kP, hkP, -⟩ := className_of_methodNamed hnamed
  have hinitP : kP.init = .initialized := Cond.initialized_spec (findClass_of_methodNamed hnamed) hkP hinit
  obtain ⟨vm₁, X₁, hstep₁⟩ := X.invokestatic hexec hown hlink hnamed hmethM hstatic hkP hinitP hy (g := g) hg (argsL := argsL) (rest := rest) (hlen _ hsigM) hstack hdg
  rcases hK m meth c ⟨T.setVm vm₁, locs, cells, slots⟩ { g with stack := rest } (.invokestatic index) mk argsL.toArray X₁ hg hsize hdg hW (X₁.named hnamed) (hpre vm₁ X₁.warmed) with ⟨v, B, X', hpost, hsteps⟩ | ⟨q, B, X', hpost, hsteps⟩
  · exact Or.inl ⟨v, vm₁, B, X₁.warmed, X', hpost, fun target h => hstep₁ _ fun acts => by rw [doInvoke_state]; exact hsteps.trans h⟩
  · exact Or.inr ⟨q, vm₁, B, X₁.warmed, X', hpost, hstep₁ _ fun acts => by rw [doInvoke_state]; exact hsteps⟩
end Calls
theorem vx_cls {s : State} {T : State} {vm₁ : Vm} {E : String} {k : ClassId} (hW : s.WarmedH vm₁) (h : (T.setVm vm₁).vm.findClass E = some k) : s.vm.findClass E = some k := by
  have h1 : vm₁.findClass E = some k := h
  rw [hW.alike.findClass] at h1
  exact h1
/-- the method's frame g, with q thrown over it -/
def vx_W (p : Program) (l : Launch) (e : Env) (R : Room) (s : State) (m : MethodId) (args : Array Value) (below : List Frame) (meth : Method) (c : Code) (H : Heap) (locs : List Loc) (cells slots : Nat) (Q : State → Prop) (g : JFrame) (q : Addr) : Prop :=
  ∀ T : State, T.heap = H → Stand p l e R s m args below meth c T locs cells slots → ∃ t, Steps p.tables e below ((T.setTop g).pushFrame (.throwing q)) t ∧ Q t
def vx_Run (p : Program) (l : Launch) (e : Env) (R : Room) (s : State) (m : MethodId) (args : Array Value) (below : List Frame) (meth : Method) (c : Code) (H : Heap) (locs : List Loc) (cells slots mc ms : Nat) (g : JFrame) (rest : List Value) (Qa : State → Outcome → State → Prop) (XC : String → State → State → Prop) (free : Addr → Prop) : Prop :=
  ∀ T : State, T.heap = H → Stand p l e R s m args below meth c T locs cells slots →
    (∃ (v : Option Value) (st₀ t T' : State) (L : List Loc), st₀.heap = H ∧ Stand p l e R s m args below meth c T' (locs ++ L) (cells + mc) (slots + ms) ∧ (∀ q ∈ L, free q.base) ∧ T'.heap = t.heap ∧ T'.vm = t.vm ∧ Qa st₀ (.returned v) t ∧
      Goes p e below T g T' { g with pc := g.pc + 3, stack := v.toList ++ rest }) ∨
    (∃ (q : Addr) (st₀ t T' : State) (L : List Loc) (E : String) (ce : Cell), st₀.heap = H ∧ Stand p l e R s m args below meth c T' (locs ++ L) (cells + mc) (slots + ms) ∧ (∀ z ∈ L, free z.base) ∧ T'.heap = t.heap ∧ T'.vm = t.vm ∧ XC E st₀ t ∧ t.heap[q]? = some ce ∧ ce.vm = .none ∧ s.vm.findClass E = some ce.cls ∧
      Steps p.tables e below (T.setTop g) ((T'.setTop { g with stack := rest }).pushFrame (.throwing q)))
def vx_X {S : Type} (px : S → Prop) (B : String → S → State → Prop) (A : Nat → Prop) : String → State → State → Prop := fun E st t => ∃ u : S, px u ∧ B E u t ∧ va_F A st t
section Runs
variable {p : Program} {l : Launch} {e : Env} {R : Room} {s : State} {m : MethodId} {args : Array Value} {below : List Frame} {meth : Method} {c : Code} {H : Heap} {locs : List Loc} {cells slots : Nat}
variable {y : MethodName} {bytes cc : ByteArray} {maxL nL mc ms n index : Nat} {ret : Option FieldType} {ws : List Cond} {rm : Room} {Pc : Array Value → State → Prop} {Qc : Array Value → State → Outcome → State → Prop} {XC : String → State → State → Prop} {free : Addr → Prop} {Ts : List Cond} {own C : String} {b : Addr} {As rest : List Value} {g : JFrame}
theorem vx_callBack (cb : CallB R s args own index y bytes maxL ret ws rm mc ms n) (hM : vx_Met l y ws rm Pc Qc XC mc ms free) (hbl : FrameBlind Pc) : vx_Back l R p e below s args y 3 8 (PreOf R mc ms Pc) (PostOf Qc mc ms free) (vx_Post XC mc ms free) := by
  obtain ⟨hrc, hrs, hfr, hlo, hws, hcw, -, hini, -⟩ := cb
  exact vx_back (bytes := bytes) (maxL := maxL) (ret := ret) hM hbl hrc hrs hfr hlo hws hcw (fun a' U hW => word_at hW (Or.inl (by first | rfl | simp [Cond.onTables, Cond.keeps, Cond.steady])) hini)
theorem vx_runV (S : CallFix p m c cc nL s args Ts own) (hM : vx_Met l y ws rm Pc Qc XC mc ms free) (cw : CallW R s args own C index y bytes maxL ret ws rm mc ms n) (hp : PreV s H C b Pc As)
    (hg : g.method = m) (hn : As.length = n) (hsize : g.locals.size = nL) (hstack : g.stack = As.reverse ++ .ref b :: rest) (hW : 2 * g.monitorRoom + (rest.map fun v => v.category).sum ≤ 8) (hdg : decode cc g.pc = .ok (.invokevirtual index, 3)) (hf : cells + mc ≤ R.cells ∧ slots + ms ≤ R.slots) :
    vx_Run p l e R s m args below meth c H locs cells slots mc ms g rest (Qc (Value.ref b :: As).toArray) XC free := by
  have hK : vx_Back l R p e below s args y 3 8 (PreOf R mc ms Pc) (PostOf Qc mc ms free) (vx_Post XC mc ms free) := vx_callBack cw.1 hM hp.1
  obtain ⟨⟨-, -, -, -, -, -, hcode, -, hy, hlen, hl⟩, hin, hse⟩ := cw
  obtain ⟨hx, hb, hml, ho, -⟩ := S
  obtain ⟨-, ⟨cellB, hcB, hoB, hclB⟩, hPc⟩ := hp
  intro T hT X
  rcases vx_callV X hx (C := C) (bytes := bytes) (maxL := maxL) (ret := ret) ho hl hin hse hcode hy hK (by rw [hT]; exact hcB) hoB hclB hg (hsize.trans hml.symm) (argsL := As) (rest := rest) (fun sig h => hn.trans (hlen sig h)) hstack hW (by rw [hb]; exact hdg)
    (fun vm₁ hW₁ => ⟨hf.1, hf.2, hPc (T.setVm vm₁) hT hW₁⟩) with ⟨v, vm₁, ⟨U', l2, c2, s2⟩, hW₁, X', ⟨g', mk, t, L, e1, e2, hq, h1, hL, h2, h3⟩, st⟩ | ⟨q, vm₁, ⟨U', l2, c2, s2⟩, hW₁, X', ⟨g', mk, t, L, E, ce, e1, e2, hq, hce, hcv, hcl, h1, hL, h2, h3⟩, st⟩
  · dsimp only [Pt.U, Pt.locs, Pt.cells, Pt.slots] at X' e1 e2 h1 h2 h3 st
    subst h1; subst h2; subst h3
    exact Or.inl ⟨v, (T.setVm vm₁).calling g' mk (Value.ref b :: As).toArray, t, U', L, hT, X', hL, e1, e2, hq, st⟩
  · dsimp only [Pt.U, Pt.locs, Pt.cells, Pt.slots] at X' e1 e2 h1 h2 h3 st hcl
    subst h1; subst h2; subst h3
    exact Or.inr ⟨q, (T.setVm vm₁).calling g' mk (Value.ref b :: As).toArray, t, U', L, E, ce, hT, X', hL, e1, e2, hq, hce, hcv, vx_cls hW₁ hcl, st⟩
theorem vx_runS (S : CallFix p m c cc nL s args Ts own) (hM : vx_Met l y ws rm Pc Qc XC mc ms free) (cw : CallB R s args own index y bytes maxL ret ws rm mc ms n ∧ (Cond.static y).before args s = true) (hp : PreS s H Pc As)
    (hg : g.method = m) (hn : As.length = n) (hsize : g.locals.size = nL) (hstack : g.stack = As.reverse ++ rest) (hW : 2 * g.monitorRoom + (rest.map fun v => v.category).sum ≤ 8) (hdg : decode cc g.pc = .ok (.invokestatic index, 3)) (hf : cells + mc ≤ R.cells ∧ slots + ms ≤ R.slots) :
    vx_Run p l e R s m args below meth c H locs cells slots mc ms g rest (Qc As.toArray) XC free := by
  have hK : vx_Back l R p e below s args y 3 8 (PreOf R mc ms Pc) (PostOf Qc mc ms free) (vx_Post XC mc ms free) := vx_callBack cw.1 hM hp.1
  obtain ⟨⟨-, -, -, -, -, -, hcode, hini, hy, hlen, hl⟩, hstt⟩ := cw
  obtain ⟨hx, hb, hml, ho, -⟩ := S
  intro T hT X
  rcases vx_callS X hx (bytes := bytes) (maxL := maxL) (ret := ret) ho hl hstt hini hcode hy hK hg (hsize.trans hml.symm) (argsL := As) (rest := rest) (fun sig h => hn.trans (hlen sig h)) hstack hW (by rw [hb]; exact hdg)
    (fun vm₁ hW₁ => ⟨hf.1, hf.2, hp.2 (T.setVm vm₁) hT hW₁⟩) with ⟨v, vm₁, ⟨U', l2, c2, s2⟩, hW₁, X', ⟨g', mk, t, L, e1, e2, hq, h1, hL, h2, h3⟩, st⟩ | ⟨q, vm₁, ⟨U', l2, c2, s2⟩, hW₁, X', ⟨g', mk, t, L, E, ce, e1, e2, hq, hce, hcv, hcl, h1, hL, h2, h3⟩, st⟩
  · dsimp only [Pt.U, Pt.locs, Pt.cells, Pt.slots] at X' e1 e2 h1 h2 h3 st
    subst h1; subst h2; subst h3
    exact Or.inl ⟨v, (T.setVm vm₁).calling g' mk As.toArray, t, U', L, hT, X', hL, e1, e2, hq, st⟩
  · dsimp only [Pt.U, Pt.locs, Pt.cells, Pt.slots] at X' e1 e2 h1 h2 h3 st hcl
    subst h1; subst h2; subst h3
    exact Or.inr ⟨q, (T.setVm vm₁).calling g' mk As.toArray, t, U', L, E, ce, hT, X', hL, e1, e2, hq, hce, hcv, vx_cls hW₁ hcl, st⟩
end Runs
section Rows
variable {p : Program} {l : Launch} {e : Env} {R : Room} {s : State} {m : MethodId} {args : Array Value} {below : List Frame} {meth : Method} {c : Code} {H : Heap} {locs : List Loc} {cells slots : Nat} {Q : State → Prop}
variable {mc ms : Nat} {free : Addr → Prop} {A0 A1 : Nat → Prop} {H0 : Heap} {a : Array Value} {pc : Nat} {ls : Array Slot} {st0 rest : List Value}
theorem vx_keep {st₀ t T' : State} {L : List Loc} (h0 : st₀.heap = H) (e1 : T'.heap = t.heap) (hS : va_S A0 H0 H locs) (hA : ∀ q, q < H.size → A1 q → A0 q) (hf : ∀ q, free q → A0 q) (hL : ∀ q ∈ L, free q.base) (hF : va_F A1 st₀ t) :
    H.size ≤ T'.heap.size ∧ (∀ q : Nat, q < H.size → ¬ A1 q → T'.heap[q]? = H[q]?) ∧ va_S A0 H0 T'.heap (locs ++ L) := by
  obtain ⟨hz, hk⟩ := hF
  rw [h0] at hz hk
  exact ⟨by rw [e1]; exact hz, fun q h1 h2 => by rw [e1]; exact hk q h1 h2,
    ⟨Nat.le_trans hS.1 (by rw [e1]; exact hz), fun q h1 h2 => by rw [e1, hk q (Nat.lt_of_lt_of_le h1 hS.1) (fun z => h2 (hA q (Nat.lt_of_lt_of_le h1 hS.1) z))]; exact hS.2.1 q h1 h2, fun q hq => by
      rcases List.mem_append.mp hq with h | h
      · exact hS.2.2 q h
      · exact hf _ (hL q h)⟩⟩
theorem vx_calli {S SX : Type} {post : Int32 → S → Prop} {px : SX → Prop} {B : S → State → Prop} {BX : String → SX → State → Prop} {AX : Nat → Prop} (hr : vx_Run p l e R s m args below meth c H locs cells slots mc ms (F0 m pc ls st0) rest (va_Qi post B A1 a) (vx_X px BX AX) free) (hS : va_S A0 H0 H locs) (hA : ∀ q, q < H.size → A1 q → A0 q) (hf : ∀ q, free q → A0 q) (hAX : ∀ q, q < H.size → AX q → A0 q)
    (kx : ∀ (E : String) (ce : Cell) (q9 : Addr) (u : SX) (t : State) (H1 : Heap) (locs1 : List Loc), t.heap = H1 → s.vm.Alike t.vm → px u → BX E u t → H.size ≤ H1.size → (∀ q : Nat, q < H.size → ¬ AX q → H1[q]? = H[q]?) → va_S A0 H0 H1 locs1 → H1[q9]? = some ce → ce.vm = .none → s.vm.findClass E = some ce.cls → vx_W p l e R s m args below meth c H1 locs1 (cells + mc) (slots + ms) Q (F0 m pc ls rest) q9)
    (kk : ∀ (r : Int32) (u : S) (t : State) (H1 : Heap) (locs1 : List Loc), t.heap = H1 → s.vm.Alike t.vm → post r u → B u t → H.size ≤ H1.size → (∀ q : Nat, q < H.size → ¬ A1 q → H1[q]? = H[q]?) → va_S A0 H0 H1 locs1 → W p l e R s m args below meth c H1 locs1 (cells + mc) (slots + ms) Q (F0 m (pc + 3) ls (.int r :: rest))) : W p l e R s m args below meth c H locs cells slots Q (F0 m pc ls st0) := by
  intro T hT X
  rcases hr T hT X with ⟨v, st₀, t, T', L, h0, X', hL, e1, e2, ⟨⟨r, u, hv, hp, hb⟩, hF⟩, st⟩ | ⟨q, st₀, t, T', L, E, ce, h0, X', hL, e1, e2, ⟨u, hp, hb, hF⟩, hce, hcv, hcl, st⟩
  · cases hv
    obtain ⟨k1, k2, k3⟩ := vx_keep h0 e1 hS hA hf hL hF
    obtain ⟨t2, a1, b1⟩ := kk r u t T'.heap (locs ++ L) e1.symm (by rw [← e2]; exact X'.warmed.alike) hp hb k1 k2 k3 T' rfl X'
    exact ⟨t2, st t2 a1, b1⟩
  · obtain ⟨k1, k2, k3⟩ := vx_keep h0 e1 hS hAX hf hL hF
    obtain ⟨t2, a1, b1⟩ := kx E ce q u t T'.heap (locs ++ L) e1.symm (by rw [← e2]; exact X'.warmed.alike) hp hb k1 k2 k3 (by rw [e1]; exact hce) hcv hcl T' rfl X'
    exact ⟨t2, st.trans a1, b1⟩
theorem vx_calll {S SX : Type} {post : Int64 → S → Prop} {px : SX → Prop} {B : S → State → Prop} {BX : String → SX → State → Prop} {AX : Nat → Prop} (hr : vx_Run p l e R s m args below meth c H locs cells slots mc ms (F0 m pc ls st0) rest (va_Ql post B A1 a) (vx_X px BX AX) free) (hS : va_S A0 H0 H locs) (hA : ∀ q, q < H.size → A1 q → A0 q) (hf : ∀ q, free q → A0 q) (hAX : ∀ q, q < H.size → AX q → A0 q)
    (kx : ∀ (E : String) (ce : Cell) (q9 : Addr) (u : SX) (t : State) (H1 : Heap) (locs1 : List Loc), t.heap = H1 → s.vm.Alike t.vm → px u → BX E u t → H.size ≤ H1.size → (∀ q : Nat, q < H.size → ¬ AX q → H1[q]? = H[q]?) → va_S A0 H0 H1 locs1 → H1[q9]? = some ce → ce.vm = .none → s.vm.findClass E = some ce.cls → vx_W p l e R s m args below meth c H1 locs1 (cells + mc) (slots + ms) Q (F0 m pc ls rest) q9)
    (kk : ∀ (r : Int64) (u : S) (t : State) (H1 : Heap) (locs1 : List Loc), t.heap = H1 → s.vm.Alike t.vm → post r u → B u t → H.size ≤ H1.size → (∀ q : Nat, q < H.size → ¬ A1 q → H1[q]? = H[q]?) → va_S A0 H0 H1 locs1 → W p l e R s m args below meth c H1 locs1 (cells + mc) (slots + ms) Q (F0 m (pc + 3) ls (.long r :: rest))) : W p l e R s m args below meth c H locs cells slots Q (F0 m pc ls st0) := by
  intro T hT X
  rcases hr T hT X with ⟨v, st₀, t, T', L, h0, X', hL, e1, e2, ⟨⟨r, u, hv, hp, hb⟩, hF⟩, st⟩ | ⟨q, st₀, t, T', L, E, ce, h0, X', hL, e1, e2, ⟨u, hp, hb, hF⟩, hce, hcv, hcl, st⟩
  · cases hv
    obtain ⟨k1, k2, k3⟩ := vx_keep h0 e1 hS hA hf hL hF
    obtain ⟨t2, a1, b1⟩ := kk r u t T'.heap (locs ++ L) e1.symm (by rw [← e2]; exact X'.warmed.alike) hp hb k1 k2 k3 T' rfl X'
    exact ⟨t2, st t2 a1, b1⟩
  · obtain ⟨k1, k2, k3⟩ := vx_keep h0 e1 hS hAX hf hL hF
    obtain ⟨t2, a1, b1⟩ := kx E ce q u t T'.heap (locs ++ L) e1.symm (by rw [← e2]; exact X'.warmed.alike) hp hb k1 k2 k3 (by rw [e1]; exact hce) hcv hcl T' rfl X'
    exact ⟨t2, st.trans a1, b1⟩
theorem vx_callf {S SX : Type} {post : UInt32 → S → Prop} {px : SX → Prop} {B : S → State → Prop} {BX : String → SX → State → Prop} {AX : Nat → Prop} (hr : vx_Run p l e R s m args below meth c H locs cells slots mc ms (F0 m pc ls st0) rest (va_Qf post B A1 a) (vx_X px BX AX) free) (hS : va_S A0 H0 H locs) (hA : ∀ q, q < H.size → A1 q → A0 q) (hf : ∀ q, free q → A0 q) (hAX : ∀ q, q < H.size → AX q → A0 q)
    (kx : ∀ (E : String) (ce : Cell) (q9 : Addr) (u : SX) (t : State) (H1 : Heap) (locs1 : List Loc), t.heap = H1 → s.vm.Alike t.vm → px u → BX E u t → H.size ≤ H1.size → (∀ q : Nat, q < H.size → ¬ AX q → H1[q]? = H[q]?) → va_S A0 H0 H1 locs1 → H1[q9]? = some ce → ce.vm = .none → s.vm.findClass E = some ce.cls → vx_W p l e R s m args below meth c H1 locs1 (cells + mc) (slots + ms) Q (F0 m pc ls rest) q9)
    (kk : ∀ (r : UInt32) (u : S) (t : State) (H1 : Heap) (locs1 : List Loc), t.heap = H1 → s.vm.Alike t.vm → post r u → B u t → H.size ≤ H1.size → (∀ q : Nat, q < H.size → ¬ A1 q → H1[q]? = H[q]?) → va_S A0 H0 H1 locs1 → W p l e R s m args below meth c H1 locs1 (cells + mc) (slots + ms) Q (F0 m (pc + 3) ls (.float r :: rest))) : W p l e R s m args below meth c H locs cells slots Q (F0 m pc ls st0) := by
  intro T hT X
  rcases hr T hT X with ⟨v, st₀, t, T', L, h0, X', hL, e1, e2, ⟨⟨r, u, hv, hp, hb⟩, hF⟩, st⟩ | ⟨q, st₀, t, T', L, E, ce, h0, X', hL, e1, e2, ⟨u, hp, hb, hF⟩, hce, hcv, hcl, st⟩
  · cases hv
    obtain ⟨k1, k2, k3⟩ := vx_keep h0 e1 hS hA hf hL hF
    obtain ⟨t2, a1, b1⟩ := kk r u t T'.heap (locs ++ L) e1.symm (by rw [← e2]; exact X'.warmed.alike) hp hb k1 k2 k3 T' rfl X'
    exact ⟨t2, st t2 a1, b1⟩
  · obtain ⟨k1, k2, k3⟩ := vx_keep h0 e1 hS hAX hf hL hF
    obtain ⟨t2, a1, b1⟩ := kx E ce q u t T'.heap (locs ++ L) e1.symm (by rw [← e2]; exact X'.warmed.alike) hp hb k1 k2 k3 (by rw [e1]; exact hce) hcv hcl T' rfl X'
    exact ⟨t2, st.trans a1, b1⟩
theorem vx_calld {S SX : Type} {post : UInt64 → S → Prop} {px : SX → Prop} {B : S → State → Prop} {BX : String → SX → State → Prop} {AX : Nat → Prop} (hr : vx_Run p l e R s m args below meth c H locs cells slots mc ms (F0 m pc ls st0) rest (va_Qd post B A1 a) (vx_X px BX AX) free) (hS : va_S A0 H0 H locs) (hA : ∀ q, q < H.size → A1 q → A0 q) (hf : ∀ q, free q → A0 q) (hAX : ∀ q, q < H.size → AX q → A0 q)
    (kx : ∀ (E : String) (ce : Cell) (q9 : Addr) (u : SX) (t : State) (H1 : Heap) (locs1 : List Loc), t.heap = H1 → s.vm.Alike t.vm → px u → BX E u t → H.size ≤ H1.size → (∀ q : Nat, q < H.size → ¬ AX q → H1[q]? = H[q]?) → va_S A0 H0 H1 locs1 → H1[q9]? = some ce → ce.vm = .none → s.vm.findClass E = some ce.cls → vx_W p l e R s m args below meth c H1 locs1 (cells + mc) (slots + ms) Q (F0 m pc ls rest) q9)
    (kk : ∀ (r : UInt64) (u : S) (t : State) (H1 : Heap) (locs1 : List Loc), t.heap = H1 → s.vm.Alike t.vm → post r u → B u t → H.size ≤ H1.size → (∀ q : Nat, q < H.size → ¬ A1 q → H1[q]? = H[q]?) → va_S A0 H0 H1 locs1 → W p l e R s m args below meth c H1 locs1 (cells + mc) (slots + ms) Q (F0 m (pc + 3) ls (.double r :: rest))) : W p l e R s m args below meth c H locs cells slots Q (F0 m pc ls st0) := by
  intro T hT X
  rcases hr T hT X with ⟨v, st₀, t, T', L, h0, X', hL, e1, e2, ⟨⟨r, u, hv, hp, hb⟩, hF⟩, st⟩ | ⟨q, st₀, t, T', L, E, ce, h0, X', hL, e1, e2, ⟨u, hp, hb, hF⟩, hce, hcv, hcl, st⟩
  · cases hv
    obtain ⟨k1, k2, k3⟩ := vx_keep h0 e1 hS hA hf hL hF
    obtain ⟨t2, a1, b1⟩ := kk r u t T'.heap (locs ++ L) e1.symm (by rw [← e2]; exact X'.warmed.alike) hp hb k1 k2 k3 T' rfl X'
    exact ⟨t2, st t2 a1, b1⟩
  · obtain ⟨k1, k2, k3⟩ := vx_keep h0 e1 hS hAX hf hL hF
    obtain ⟨t2, a1, b1⟩ := kx E ce q u t T'.heap (locs ++ L) e1.symm (by rw [← e2]; exact X'.warmed.alike) hp hb k1 k2 k3 (by rw [e1]; exact hce) hcv hcl T' rfl X'
    exact ⟨t2, st.trans a1, b1⟩
theorem vx_callv {S SX : Type} {post : S → Prop} {px : SX → Prop} {B : S → State → Prop} {BX : String → SX → State → Prop} {AX : Nat → Prop} (hr : vx_Run p l e R s m args below meth c H locs cells slots mc ms (F0 m pc ls st0) rest (va_Qv post B A1 a) (vx_X px BX AX) free) (hS : va_S A0 H0 H locs) (hA : ∀ q, q < H.size → A1 q → A0 q) (hf : ∀ q, free q → A0 q) (hAX : ∀ q, q < H.size → AX q → A0 q)
    (kx : ∀ (E : String) (ce : Cell) (q9 : Addr) (u : SX) (t : State) (H1 : Heap) (locs1 : List Loc), t.heap = H1 → s.vm.Alike t.vm → px u → BX E u t → H.size ≤ H1.size → (∀ q : Nat, q < H.size → ¬ AX q → H1[q]? = H[q]?) → va_S A0 H0 H1 locs1 → H1[q9]? = some ce → ce.vm = .none → s.vm.findClass E = some ce.cls → vx_W p l e R s m args below meth c H1 locs1 (cells + mc) (slots + ms) Q (F0 m pc ls rest) q9)
    (kk : ∀ (u : S) (t : State) (H1 : Heap) (locs1 : List Loc), t.heap = H1 → s.vm.Alike t.vm → post u → B u t → H.size ≤ H1.size → (∀ q : Nat, q < H.size → ¬ A1 q → H1[q]? = H[q]?) → va_S A0 H0 H1 locs1 → W p l e R s m args below meth c H1 locs1 (cells + mc) (slots + ms) Q (F0 m (pc + 3) ls (rest))) : W p l e R s m args below meth c H locs cells slots Q (F0 m pc ls st0) := by
  intro T hT X
  rcases hr T hT X with ⟨v, st₀, t, T', L, h0, X', hL, e1, e2, ⟨⟨u, hv, hp, hb⟩, hF⟩, st⟩ | ⟨q, st₀, t, T', L, E, ce, h0, X', hL, e1, e2, ⟨u, hp, hb, hF⟩, hce, hcv, hcl, st⟩
  · cases hv
    obtain ⟨k1, k2, k3⟩ := vx_keep h0 e1 hS hA hf hL hF
    obtain ⟨t2, a1, b1⟩ := kk u t T'.heap (locs ++ L) e1.symm (by rw [← e2]; exact X'.warmed.alike) hp hb k1 k2 k3 T' rfl X'
    exact ⟨t2, st t2 a1, b1⟩
  · obtain ⟨k1, k2, k3⟩ := vx_keep h0 e1 hS hAX hf hL hF
    obtain ⟨t2, a1, b1⟩ := kx E ce q u t T'.heap (locs ++ L) e1.symm (by rw [← e2]; exact X'.warmed.alike) hp hb k1 k2 k3 (by rw [e1]; exact hce) hcv hcl T' rfl X'
    exact ⟨t2, st.trans a1, b1⟩
end Rows
section Ends
variable {p : Program} {l : Launch} {e : Env} {R : Room} {s : State} {m : MethodId} {args : Array Value} {below : List Frame} {meth : Method} {c : Code} {H : Heap} {locs : List Loc} {cells slots : Nat} {Q : State → Prop}
variable {mc ms : Nat} {free : Addr → Prop} {A0 A1 : Nat → Prop} {H0 : Heap} {a : Array Value} {ls : Array Slot} {st0 rest : List Value}
variable {Qc : Array Value → State → Outcome → State → Prop} {XC : String → State → State → Prop}
/-- what a body that may throw owes at its end -/
def vx_MQ (below : List Frame) (Qc : Array Value → State → Outcome → State → Prop) (XC : String → State → State → Prop) (a : Array Value) (s : State) (mc ms : Nat) (free : Addr → Prop) : State → Prop := fun t =>
  ∃ o, t.status = .running ∧ Ended t below o ∧ vx_Q Qc XC mc ms free a s o t
theorem vx_ret {g : JFrame} {mc ms : Nat} (k : W p l e R s m args below meth c H locs cells slots (MQ below Qc args s mc ms free) g) : W p l e R s m args below meth c H locs cells slots (vx_MQ below Qc XC args s mc ms free) g := by
  intro T hT X
  obtain ⟨t, a1, o, b1, b2, b3, b4⟩ := k T hT X
  exact ⟨t, a1, o, b1, b2, Or.inl ⟨b3, b4⟩⟩
/-- not caught here: it goes on to the caller -/
theorem vx_widen {g : JFrame} {q : Addr} {k n : Nat} (h1 : cells ≤ k) (h2 : slots ≤ n) (kk : vx_W p l e R s m args below meth c H locs k n Q g q) : vx_W p l e R s m args below meth c H locs cells slots Q g q := fun T hT X => kk T hT (stand_widen X h1 h2)
theorem vx_out {pc : Nat} {E : String} {ce : Cell} {q : Addr} {mc ms : Nat} (hout : ∀ x ∈ c.exceptionTable.toList, covers x pc = false) (hlocks : meth.locks = false) (hcell : H[q]? = some ce) (hv : ce.vm = .none) (hcl : s.vm.findClass E = some ce.cls)
    (hx : ∀ t : State, t.heap = H → s.vm.Alike t.vm → XC E s t) (hf : ∀ z ∈ locs, free z.base) (hc : cells ≤ mc) (hs : slots ≤ ms) :
    vx_W p l e R s m args below meth c H locs cells slots (vx_MQ below Qc XC args s mc ms free) (F0 m pc ls rest) q := by
  intro T hT X
  obtain ⟨st1, hrun, hend, hW, hsm⟩ := X.leaveThrown q (g := F0 m pc ls rest) rfl rfl rfl hout hlocks
  have hcell9 : (T.setFrames (.throwing q :: below)).heap[q]? = some ce := by
    show T.heap[q]? = some ce
    rw [hT]; exact hcell
  exact ⟨_, st1, .threw q, hrun, hend, Or.inr ⟨q, rfl, E, ce, locs, hx _ hT hW.alike, hcell9, hv, hcl, hW, hsm.mono hc hs, hf⟩⟩
theorem vx_frame {U : State} {k n : Nat} (h : s.sameButNew ({ U with vm := s.vm } : State) locs k n) : s.heap.size ≤ U.heap.size ∧ ∀ q : Nat, q < s.heap.size → (∀ z ∈ locs, z.base ≠ q) → U.heap[q]? = s.heap[q]? := by
  obtain ⟨-, h2, -, -, -, h6⟩ := h
  refine ⟨h2, fun q hq hz => ?_⟩
  obtain ⟨c9, e1, e2, e3, e4⟩ := h6 q _ (Array.getElem?_eq_getElem hq)
  have hs : c9.slots = (s.heap[q]).slots := Array.ext_getElem? fun i => e4 i fun hm => hz _ hm rfl
  have h9 : c9 = s.heap[q] := by
    rw [hs] at e2
    exact e2
  have e5 : U.heap[q]? = some c9 := e1
  rw [e5, h9, Array.getElem?_eq_getElem hq]
/-- the words of a throw but the four that speak of the heap -/
def vx_no (w : Cond) : Bool := decide (w ≠ .isRef (.static Bundle.tN "UNASSIGNED_STACK" Bundle.steD)) && decide (w ≠ .isRef (.static Bundle.tN "SUPPRESSED_SENTINEL" Bundle.listD)) && decide (w ≠ .laysStatic Bundle.tN "UNASSIGNED_STACK" Bundle.steD) && decide (w ≠ .laysStatic Bundle.tN "SUPPRESSED_SENTINEL" Bundle.listD)
def vx_at0 (own : String) (ic : Nat) (X : String) (names : List String) : List Cond := (Bundle.ownAtoms0 own ic X names).filter vx_no
def vx_atS (own : String) (ic : Nat) (X : String) (names : List String) : List Cond := (Bundle.ownAtoms own ic X names).filter vx_no
/-- a word that the tables alone decide, or a good one -/
def vx_ot (w : Cond) : Bool := w.onTables || goodWord w
theorem vx_ot_at {args a' : Array Value} {s U : State} {w : Cond} (hW : s.WarmedH U.vm) (hvm : s.vm = U.vm) (hg : vx_ot w = true) (h : w.before args s = true) : w.before a' U = true := by
  simp only [vx_ot, Bool.or_eq_true] at hg
  rcases hg with hg | hg
  · exact va_tabs hg hvm h
  · exact word_at hW (good_of_word hg) h
/-- a list's words: the good ones out of the method's own list, the others by premises of their own -/
theorem vx_hat {args : Array Value} {s : State} {L B : List Cond} (h1 : ∀ w ∈ L.filter goodWord, w.before args s = true) (h2 : ∀ w ∈ L.filter (fun w => !goodWord w), w ∈ B) (h3 : ∀ w ∈ B, w.before args s = true) : ∀ w ∈ L, w.before args s = true := by
  intro w hw
  by_cases g : goodWord w = true
  · exact h1 w (List.mem_filter.mpr ⟨hw, g⟩)
  · refine h3 w (h2 w (List.mem_filter.mpr ⟨hw, ?_⟩))
    show (!goodWord w) = true
    cases hgw : goodWord w
    · rfl
    · exact absurd hgw g
theorem vx_c {args : Array Value} {s : State} {w : Cond} {B : List Cond} (h : w.before args s = true) (t : ∀ w ∈ B, w.before args s = true) : ∀ w' ∈ w :: B, w'.before args s = true := fun w' h' => (List.mem_cons.mp h').elim (fun e => by rw [e]; exact h) (t w')
theorem vx_n {args : Array Value} {s : State} : ∀ w ∈ ([] : List Cond), w.before args s = true := fun _ h => nomatch h
theorem vx_own {args : Array Value} {s : State} {L : List Cond} (h1 : ∀ w ∈ L.filter vx_no, w.before args s = true)
    (hU : (Cond.isRef (.static Bundle.tN "UNASSIGNED_STACK" Bundle.steD)).before args s = true) (hN : (Cond.isRef (.static Bundle.tN "SUPPRESSED_SENTINEL" Bundle.listD)).before args s = true)
    (lU : (Cond.laysStatic Bundle.tN "UNASSIGNED_STACK" Bundle.steD).before args s = true) (lN : (Cond.laysStatic Bundle.tN "SUPPRESSED_SENTINEL" Bundle.listD).before args s = true) : ∀ w ∈ L, w.before args s = true := by
  intro w hw
  by_cases e1 : w = .isRef (.static Bundle.tN "UNASSIGNED_STACK" Bundle.steD)
  · rw [e1]; exact hU
  · by_cases e2 : w = .isRef (.static Bundle.tN "SUPPRESSED_SENTINEL" Bundle.listD)
    · rw [e2]; exact hN
    · by_cases e3 : w = .laysStatic Bundle.tN "UNASSIGNED_STACK" Bundle.steD
      · rw [e3]; exact lU
      · by_cases e4 : w = .laysStatic Bundle.tN "SUPPRESSED_SENTINEL" Bundle.listD
        · rw [e4]; exact lN
        · exact h1 w (List.mem_filter.mpr ⟨hw, by unfold vx_no; rw [decide_eq_true e1, decide_eq_true e2, decide_eq_true e3, decide_eq_true e4]; rfl⟩)
/-- where a static field lies, its class's statics cell in H -/
def vx_L (C n d : String) (A : Nat → Prop) (U : State) (H : Heap) : Prop := ∃ (c : ClassId) (k : Class) (i : Nat) (f : Field) (a : Nat) (cell : Cell), U.vm.findClass C = some c ∧ U.fieldFound? C n d = some (c, k, i, f) ∧ f.isStatic = true ∧ k.statics = some a ∧ H[a]? = some cell ∧ cell.vm.isStatics = true ∧ cell.cls = c ∧ f.slot < cell.slots.size ∧ k.staticTypes[f.slot]? = some f.type ∧ ¬ A a
theorem vx_L.moved {C n d : String} {A : Nat → Prop} {u U : State} {H : Heap} (hvm : u.vm.Alike U.vm) (h : vx_L C n d A u H) : vx_L C n d A U H := by
  obtain ⟨c, k, i, f, a, cell, h1, h2, h3, h4, h5, h6, h7, h8, h9, h10⟩ := h
  obtain ⟨k', hi', he⟩ := State.fieldFound?_setVm hvm h2
  exact ⟨c, k', i, f, a, cell, by rw [hvm.findClass]; exact h1, hi', h3, by rw [he]; exact h4, h5, h6, h7, h8, by rw [he]; exact h9, h10⟩
theorem vx_L.kept {C n d : String} {A : Nat → Prop} {U : State} {H H1 : Heap} (h : vx_L C n d A U H) (hq : ∀ a : Nat, a < H.size → ¬ A a → H1[a]? = H[a]?) : vx_L C n d A U H1 := by
  obtain ⟨c, k, i, f, a, cell, h1, h2, h3, h4, h5, h6, h7, h8, h9, h10⟩ := h
  exact ⟨c, k, i, f, a, cell, h1, h2, h3, h4, by rw [hq a (Array.getElem?_eq_some_iff.mp h5).1 h10]; exact h5, h6, h7, h8, h9, h10⟩
theorem vx_L.narrow {C n d : String} {A B : Nat → Prop} {U : State} {H : Heap} (h : vx_L C n d A U H) (hAB : ∀ q, B q → A q) : vx_L C n d B U H := by
  obtain ⟨c, k, i, f, a, cell, h1, h2, h3, h4, h5, h6, h7, h8, h9, h10⟩ := h
  exact ⟨c, k, i, f, a, cell, h1, h2, h3, h4, h5, h6, h7, h8, h9, fun z => h10 (hAB _ z)⟩
theorem vx_L.word {C n d : String} {A : Nat → Prop} {s : State} {args : Array Value} (h : vx_L C n d A s s.heap) : (Cond.laysStatic C n d).before args s = true := by
  obtain ⟨c, k, i, f, a, cell, h1, h2, h3, h4, h5, h6, h7, h8, h9, -⟩ := h
  show (Cond.laysStatic C n d).holds args s none s [] = true
  exact Cond.laysStatic_of h1 h2 h3 h4 h5 h6 h7 h8 h9
/-- .. and what it holds: null or some reference -/
def vx_Zq (C n d : String) (A : Nat → Prop) (U : State) (H : Heap) : Prop := va_Zq C n d A U H ∧ vx_L C n d A U H
theorem vx_Zq.moved {C n d : String} {A : Nat → Prop} {u U : State} {H : Heap} (hvm : u.vm.Alike U.vm) (h : vx_Zq C n d A u H) : vx_Zq C n d A U H := ⟨va_Zq.moved hvm h.1, vx_L.moved hvm h.2⟩
theorem vx_Zq.kept {C n d : String} {A : Nat → Prop} {U : State} {H H1 : Heap} (h : vx_Zq C n d A U H) (hq : ∀ a : Nat, a < H.size → ¬ A a → H1[a]? = H[a]?) : vx_Zq C n d A U H1 := ⟨va_Zq.kept h.1 hq, vx_L.kept h.2 hq⟩
theorem vx_Zq.narrow {C n d : String} {A B : Nat → Prop} {U : State} {H : Heap} (h : vx_Zq C n d A U H) (hAB : ∀ q, B q → A q) : vx_Zq C n d B U H := ⟨va_Zq.narrow h.1 hAB, vx_L.narrow h.2 hAB⟩
theorem vx_Zqof {args : Array Value} {s : State} {C n d : String} {A : Nat → Prop} (hl : (Cond.laysStatic C n d).before args s = true) (hini : (Cond.initialized C).before args s = true) (h : (Cond.isRef (.static C n d)).before args s = true) (hA : ∀ a : Nat, a < s.heap.size → ¬ A a) : vx_Zq C n d A s s.heap := by
  refine ⟨va_Zqof hl hini h hA, ?_⟩
  obtain ⟨c, k, i, f, a, cell, h1, h2, h3, h4, h5, h6, h7, h8, h9⟩ := Cond.laysStatic_spec hl
  exact ⟨c, k, i, f, a, cell, h1, h2, h3, h4, h5, h6, h7, h8, h9, hA a (Array.getElem?_eq_some_iff.mp h5).1⟩
theorem vx_isRef {C n d : String} {v : Value} {A : Nat → Prop} {s : State} {args : Array Value} (h : va_Z C n d v A s s.heap) (hv : v.isRef = true) : (Cond.isRef (.static C n d)).before args s = true := by
  obtain ⟨cf, kf, fi, f, a, cell, h1, h2, h3, h4, h5, h6, h7, -⟩ := h
  have he : (Term.static C n d).eval args s none [] s = some v := by
    simp [Term.eval, State.fieldNamed?, h1, h2, h4, h5, h6, h7]
  simp only [Cond.before, Cond.holds, Cond.value, he]
  cases v <;> simp_all [Value.isRef]
theorem vx_isRefq {C n d : String} {A : Nat → Prop} {s : State} {args : Array Value} (h : va_Zq C n d A s s.heap) : (Cond.isRef (.static C n d)).before args s = true := by
  rcases h with h | ⟨t, h⟩
  · exact vx_isRef h rfl
  · exact vx_isRef h rfl
/-- the same frame, seen from here: as if the method were called anew in this heap -/
theorem vx_rebase {T : State} (X : Stand p l e R s m args below meth c T locs cells slots) {R' : Room} (hf : R'.frames ≤ R.frames) (hl : R'.locals ≤ R.locals) (hc : cells + R'.cells ≤ R.cells) (hs : slots + R'.slots ≤ R.slots) :
    Stand p l e R' ((T.setVm s.vm).setFrames (.invoking m args :: below)) m args below meth c T [] 0 0 := by
  have htop : (T.setVm s.vm).topJava?.isSome := X.here.top
  have hF : ((T.setVm s.vm).setFrames (.invoking m args :: below)).frames = .invoking m args :: below := State.frames_setFrames _ (State.cur_lt_of_top htop)
  obtain ⟨g₀, hg0⟩ := Option.isSome_iff_exists.mp htop
  obtain ⟨r, hr⟩ := State.topJava?_eq_some.mp hg0
  have hl9 : e.platform.stackLimits (T.setVm s.vm).me = e.platform.stackLimits s.me := X.limits
  have hb9 : (T.setVm s.vm).me.stackBytes = s.me.stackBytes := X.bytes
  refine ⟨X.admits, X.cas, X.clock, hF, ?_, X.hears, X.method, X.code, X.here, X.tail, X.warmed, ?_, ?_, ?_⟩
  · have h := X.room
    have hU : ((T.setVm s.vm).setFrames (.invoking m args :: below)).localsInUse = s.localsInUse := by
      rw [State.localsInUse_invoking hF (meth := meth) (c := c) X.method X.code, State.localsInUse_invoking X.frames X.method X.code]
    simp only [State.hasRoom, Bool.and_eq_true, decide_eq_true_eq] at h ⊢
    obtain ⟨⟨⟨⟨h1, h2, h3, h4, h5, h6⟩, h7⟩, h8⟩, h9⟩ := h
    rw [X.frames, List.length_cons] at h2 h3
    have q1 := X.heapSize
    have q2 := X.used
    simp only [hF, hU, List.length_cons, State.stackLimits_setFrames, State.stackBytes_setFrames, hl9, hb9]
    refine ⟨⟨⟨⟨by omega, by omega, by omega, by omega, by omega, h6⟩, ?_⟩, ?_⟩, X.book⟩
    · show T.heap.size + R'.cells ≤ e.platform.maxCells
      omega
    · show T.slotsUsed + R'.slots ≤ e.platform.maxSlots
      omega
  · rw [State.stackLimits_setFrames]; rfl
  · rw [State.stackBytes_setFrames]; rfl
  · refine ⟨?_, Nat.le_refl _, Nat.le_refl _, ?_, ?_, fun a c9 h9 => ⟨c9, h9, rfl, rfl, fun _ _ => rfl⟩⟩
    · obtain ⟨t, ht, -⟩ := State.frames_cons hr
      show T.setVm s.vm = { ((T.setVm s.vm).setFrames (.invoking m args :: below)).setFrames (T.setVm s.vm).frames with heap := T.heap, slotsUsed := T.slotsUsed }
      rw [State.setFrames_setFrames, State.setFrames_self ht]
      rfl
    · show T.slotsUsed = T.slotsUsed + ((T.heap.toList.drop T.heap.size).map (·.slots.size)).sum
      rw [List.drop_eq_nil_of_le (Nat.le_of_eq Array.length_toList)]
      rfl
    · show ((T.heap.toList.drop T.heap.size).map (·.slots.size)).sum ≤ 0
      rw [List.drop_eq_nil_of_le (Nat.le_of_eq Array.length_toList)]
      exact Nat.le_refl _
/-- 'throw new E()': new; dup; invokespecial; athrow -/
theorem vx_throw0 {cc : ByteArray} {pc : Nat} (hexec : p.tables.exec = Jvm.exec) (hb : c.code = cc) (hl : l.stackTraces = false) {own cls : String} {names : List String} {ik ic mc ms : Nat} {A : Nat → Prop}
    (hown : s.vm.findClass own = some m.cls) (hcls : Bundle.fit cls = true) (hnames : ∀ n ∈ names, Bundle.fit n = true)
    (hk : (Cond.classLink own ik cls).before args s = true) (hini : (Cond.initialized cls).before args s = true) (hat : ∀ w ∈ vx_at0 own ic cls names, w.before args s = true)
    (hgood : ∀ w ∈ Cond.classLink own ik cls :: Cond.initialized cls :: vx_at0 own ic cls names, vx_ot w = true)
    (hU : vx_Zq Bundle.tN "UNASSIGNED_STACK" Bundle.steD A s s.heap) (hN : vx_Zq Bundle.tN "SUPPRESSED_SENTINEL" Bundle.listD A s s.heap) (hS : va_S A s.heap H locs) (hsize : ls.size = c.maxLocals)
    (d0 : decode cc pc = .ok (.new ik, 3)) (d3 : decode cc (pc + 3) = .ok (.dup, 1)) (d4 : decode cc (pc + 4) = .ok (.invokespecial ic, 3)) (d7 : decode cc (pc + 7) = .ok (.athrow, 1))
    (hout : ∀ x ∈ c.exceptionTable.toList, covers x (pc + 7) = false)
    (hRframes : names.length + 3 < R.frames) (hRlocals : (rest.map fun v => v.category).sum + (13 * (names.length + 1) + 42) ≤ R.locals) (hRcells : cells + 1 ≤ R.cells) (hRslots : slots + 6 ≤ R.slots) (hlocks : meth.locks = false)
    (hx : ∀ t : State, s.vm.Alike t.vm → H.size ≤ t.heap.size → (∀ q : Nat, q < H.size → t.heap[q]? = H[q]?) → XC cls s t)
    (hf : ∀ z ∈ locs, free z.base) (hc : cells + 1 ≤ mc) (hs : slots + 6 ≤ ms) :
    W p l e R s m args below meth c H locs cells slots (vx_MQ below Qc XC args s mc ms free) (F0 m pc ls rest) := by
  intro T hT X
  have htr : e.platform.stackTraces = false := (show e.platform.stackTraces = l.stackTraces by rw [X.admits.platform]).trans hl
  have Y := vx_rebase X (R' := { frames := R.frames, locals := R.locals, cells := 1, slots := 6 }) (Nat.le_refl _) (Nat.le_refl _) hRcells hRslots
  obtain ⟨s', hA⟩ : ∃ z, z = (T.setVm s.vm).setFrames (.invoking m args :: below) := ⟨_, rfl⟩
  rw [← hA] at Y
  have hvm : s'.vm = s.vm := by rw [hA]; rfl
  have hhp : s'.heap = H := by rw [hA]; exact hT
  have hW0 : s.WarmedH s'.vm := by rw [hvm]; exact State.WarmedH.refl s
  have hat' : ∀ w ∈ vx_at0 own ic cls names, w.before args s' = true := fun w hw => vx_ot_at hW0 hvm.symm (hgood w (List.mem_cons_of_mem _ (List.mem_cons_of_mem _ hw))) (hat w hw)
  have hk' : (Cond.classLink own ik cls).before args s' = true := vx_ot_at hW0 hvm.symm (hgood _ List.mem_cons_self) hk
  have hini' : (Cond.initialized cls).before args s' = true := vx_ot_at hW0 hvm.symm (hgood _ (List.mem_cons_of_mem _ List.mem_cons_self)) hini
  have hU' : vx_Zq Bundle.tN "UNASSIGNED_STACK" Bundle.steD A s' s'.heap := by rw [hhp]; exact vx_Zq.moved hW0.alike (hU.kept hS.2.1)
  have hN' : vx_Zq Bundle.tN "SUPPRESSED_SENTINEL" Bundle.listD A s' s'.heap := by rw [hhp]; exact vx_Zq.moved hW0.alike (hN.kept hS.2.1)
  have h : ∀ w ∈ Bundle.ownAtoms0 own ic cls names, w.before args s' = true := vx_own hat' (vx_isRefq hU'.1) (vx_isRefq hN'.1) hU'.2.word hN'.2.word
  have hown' : s'.vm.findClass own = some m.cls := by rw [hvm]; exact hown
  have hins : (Cond.instantiable cls 6).before args s' = true := h _ (by simp [Bundle.ownAtoms0])
  obtain ⟨vm₁, cX, kX, hfX, hkX, -, -, X₁, st1⟩ := Y.newCold hexec (own := own) (C := cls) (index := ik) (n := 6) hown' hk' hins hini'
    (g := F0 m pc ls rest) rfl (by rw [hb]; exact d0) (Nat.le_refl _) (Nat.le_refl _)
  generalize hT1 : (T.setVm vm₁).pushCell { cls := cX, slots := kX.instanceTypes.map defaultValue, vm := .none } = T1 at X₁ st1
  have hcat : (Value.ref T.heap.size).category = 1 := rfl
  have hcellA : T1.heap[T.heap.size]? = some (freshCell cX kX) := by rw [← hT1]; exact State.heap_pushCell_size _ _
  have d3' : decode c.code (pc + 3) = .ok (.dup, 1) := by rw [hb]; exact d3
  obtain ⟨U, hsteps, hrun, hend, hW, hsame, ce, hce, hO⟩ := X₁.ctorThrow0 hexec htr (own := own) (cls := cls) (names := names) (ic := ic) hown' hcls hnames h (fun x hx => nomatch hx) hfX hkX hcellA (by rw [hhp, hT]; exact Nat.le_refl _)
    (g := { method := m, pc := pc + 4, locals := ls, stack := .ref T.heap.size :: .ref T.heap.size :: rest, locked := none }) rfl hsize rfl rfl (rest := rest) rfl
    (by rw [hb]; exact d4) (by rw [hb]; exact d7) hout hRframes (by simp only [List.map_cons, List.sum_cons, hcat]; omega) hlocks
  obtain ⟨f1, f2⟩ := vx_frame hsame
  rw [hhp] at f1 f2
  have hWs : s.WarmedH U.vm := State.WarmedH.trans hW0 hW
  have hcl : s.vm.findClass cls = some ce.cls := by
    have h9 := hO.cls
    rw [hvm] at h9
    exact h9
  have hall : s.sameButNew ({ U with vm := s.vm } : State) locs mc ms := by
    subst hA
    obtain ⟨e1, e2⟩ := hsame
    rw [State.setFrames_setFrames] at e1
    have h2 : (T.setVm s.vm).sameButNew ({ U with vm := s.vm } : State) [] (0 + 1) (0 + 6) := ⟨e1, e2⟩
    have h3 := X.same.trans h2
    rw [List.append_nil] at h3
    exact h3.mono hc hs
  refine ⟨U, ?_, .threw T.heap.size, hrun, hend, Or.inr ⟨T.heap.size, rfl, cls, ce, locs, hx U hWs.alike f1 (fun q hq => f2 q hq (fun z hz => nomatch hz)), hce, hO.vm, hcl, hWs, hall, hf⟩⟩
  refine st1 _ ?_
  show Steps p.tables e below (T1.setTop { method := m, pc := pc + 3, locals := ls, stack := .ref T.heap.size :: rest, locked := none }) _
  jvm_step X₁.here [X₁.here.top, hexec, d3', Value.category]
  exact hsteps
/-- 'throw new E("text")': new; dup; ldc; invokespecial; athrow -/
theorem vx_throwS {cc : ByteArray} {pc : Nat} (hexec : p.tables.exec = Jvm.exec) (hb : c.code = cc) (hl : l.stackTraces = false) {own cls text : String} {names : List String} {ik is ic mc ms sa : Nat} {A : Nat → Prop}
    (hown : s.vm.findClass own = some m.cls) (hcls : Bundle.fit cls = true) (hnames : ∀ n ∈ names, Bundle.fit n = true)
    (hk : (Cond.classLink own ik cls).before args s = true) (hini : (Cond.initialized cls).before args s = true) (hstr : vk_R own is text sa s) (hat : ∀ w ∈ vx_atS own ic cls names, w.before args s = true)
    (hgood : ∀ w ∈ Cond.classLink own ik cls :: Cond.initialized cls :: vx_atS own ic cls names, vx_ot w = true)
    (hU : vx_Zq Bundle.tN "UNASSIGNED_STACK" Bundle.steD A s s.heap) (hN : vx_Zq Bundle.tN "SUPPRESSED_SENTINEL" Bundle.listD A s s.heap) (hS : va_S A s.heap H locs) (hsize : ls.size = c.maxLocals)
    (d0 : decode cc pc = .ok (.new ik, 3)) (d3 : decode cc (pc + 3) = .ok (.dup, 1)) (d4 : decode cc (pc + 4) = .ok (.ldc is, 2)) (d6 : decode cc (pc + 6) = .ok (.invokespecial ic, 3)) (d9 : decode cc (pc + 9) = .ok (.athrow, 1))
    (hout : ∀ x ∈ c.exceptionTable.toList, covers x (pc + 9) = false)
    (hRframes : names.length + 3 < R.frames) (hRlocals : (rest.map fun v => v.category).sum + (13 * (names.length + 1) + 43) ≤ R.locals) (hRcells : cells + 1 ≤ R.cells) (hRslots : slots + 6 ≤ R.slots) (hlocks : meth.locks = false)
    (hx : ∀ t : State, s.vm.Alike t.vm → H.size ≤ t.heap.size → (∀ q : Nat, q < H.size → t.heap[q]? = H[q]?) → XC cls s t)
    (hf : ∀ z ∈ locs, free z.base) (hc : cells + 1 ≤ mc) (hs : slots + 6 ≤ ms) :
    W p l e R s m args below meth c H locs cells slots (vx_MQ below Qc XC args s mc ms free) (F0 m pc ls rest) := by
  intro T hT X
  have htr : e.platform.stackTraces = false := (show e.platform.stackTraces = l.stackTraces by rw [X.admits.platform]).trans hl
  have Y := vx_rebase X (R' := { frames := R.frames, locals := R.locals, cells := 1, slots := 6 }) (Nat.le_refl _) (Nat.le_refl _) hRcells hRslots
  obtain ⟨s', hA⟩ : ∃ z, z = (T.setVm s.vm).setFrames (.invoking m args :: below) := ⟨_, rfl⟩
  rw [← hA] at Y
  have hvm : s'.vm = s.vm := by rw [hA]; rfl
  have hhp : s'.heap = H := by rw [hA]; exact hT
  have hW0 : s.WarmedH s'.vm := by rw [hvm]; exact State.WarmedH.refl s
  have hat' : ∀ w ∈ vx_atS own ic cls names, w.before args s' = true := fun w hw => vx_ot_at hW0 hvm.symm (hgood w (List.mem_cons_of_mem _ (List.mem_cons_of_mem _ hw))) (hat w hw)
  have hk' : (Cond.classLink own ik cls).before args s' = true := vx_ot_at hW0 hvm.symm (hgood _ List.mem_cons_self) hk
  have hini' : (Cond.initialized cls).before args s' = true := vx_ot_at hW0 hvm.symm (hgood _ (List.mem_cons_of_mem _ List.mem_cons_self)) hini
  have hU' : vx_Zq Bundle.tN "UNASSIGNED_STACK" Bundle.steD A s' s'.heap := by rw [hhp]; exact vx_Zq.moved hW0.alike (hU.kept hS.2.1)
  have hN' : vx_Zq Bundle.tN "SUPPRESSED_SENTINEL" Bundle.listD A s' s'.heap := by rw [hhp]; exact vx_Zq.moved hW0.alike (hN.kept hS.2.1)
  have h : ∀ w ∈ Bundle.ownAtoms own ic cls names, w.before args s' = true := vx_own hat' (vx_isRefq hU'.1) (vx_isRefq hN'.1) hU'.2.word hN'.2.word
  have hown' : s'.vm.findClass own = some m.cls := by rw [hvm]; exact hown
  have hins : (Cond.instantiable cls 6).before args s' = true := h _ (by simp [Bundle.ownAtoms])
  obtain ⟨vm₁, cX, kX, hfX, hkX, -, -, X₁, st1⟩ := Y.newCold hexec (own := own) (C := cls) (index := ik) (n := 6) hown' hk' hins hini'
    (g := F0 m pc ls rest) rfl (by rw [hb]; exact d0) (Nat.le_refl _) (Nat.le_refl _)
  generalize hT1 : (T.setVm vm₁).pushCell { cls := cX, slots := kX.instanceTypes.map defaultValue, vm := .none } = T1 at X₁ st1
  have hcat : (Value.ref T.heap.size).category = 1 := rfl
  have hcellA : T1.heap[T.heap.size]? = some (freshCell cX kX) := by rw [← hT1]; exact State.heap_pushCell_size _ _
  have d3' : decode c.code (pc + 3) = .ok (.dup, 1) := by rw [hb]; exact d3
  have d4' : decode c.code (pc + 4) = .ok (.ldc is, 2) := by rw [hb]; exact d4
  have hstr' : vk_R own is text sa s' := vk_R.warm hW0 hstr
  obtain ⟨U, hsteps, hrun, hend, hW, hsame, ce, hce, hO⟩ := X₁.ctorThrowS hexec htr (own := own) (cls := cls) (names := names) (ic := ic) hown' hcls hnames h (fun x hx => nomatch hx) hfX hkX hcellA (by rw [hhp, hT]; exact Nat.le_refl _) (msg := .ref sa) rfl
    (g := { method := m, pc := pc + 6, locals := ls, stack := .ref sa :: .ref T.heap.size :: .ref T.heap.size :: rest, locked := none }) rfl hsize rfl rfl (rest := rest) rfl
    (by rw [hb]; exact d6) (by rw [hb]; exact d9) hout hRframes (by simp only [List.map_cons, List.sum_cons, hcat]; omega) hlocks
  obtain ⟨f1, f2⟩ := vx_frame hsame
  rw [hhp] at f1 f2
  have hWs : s.WarmedH U.vm := State.WarmedH.trans hW0 hW
  have hcl : s.vm.findClass cls = some ce.cls := by
    have h9 := hO.cls
    rw [hvm] at h9
    exact h9
  have hall : s.sameButNew ({ U with vm := s.vm } : State) locs mc ms := by
    subst hA
    obtain ⟨e1, e2⟩ := hsame
    rw [State.setFrames_setFrames] at e1
    have h2 : (T.setVm s.vm).sameButNew ({ U with vm := s.vm } : State) [] (0 + 1) (0 + 6) := ⟨e1, e2⟩
    have h3 := X.same.trans h2
    rw [List.append_nil] at h3
    exact h3.mono hc hs
  refine ⟨U, ?_, .threw T.heap.size, hrun, hend, Or.inr ⟨T.heap.size, rfl, cls, ce, locs, hx U hWs.alike f1 (fun q hq => f2 q hq (fun z hz => nomatch hz)), hce, hO.vm, hcl, hWs, hall, hf⟩⟩
  refine st1 _ ?_
  show Steps p.tables e below (T1.setTop { method := m, pc := pc + 3, locals := ls, stack := .ref T.heap.size :: rest, locked := none }) _
  jvm_step X₁.here [X₁.here.top, hexec, d3', Value.category]
  exact X₁.ldcString hexec (own := own) (text := text) (index := is) (a := sa) hown' hstr'.1 hstr'.2
    (g := { method := m, pc := pc + 4, locals := ls, stack := .ref T.heap.size :: .ref T.heap.size :: rest, locked := none }) rfl d4' _ hsteps
/-- 'throw new E("text")', the text by a wide index -/
theorem vx_throwSW {cc : ByteArray} {pc : Nat} (hexec : p.tables.exec = Jvm.exec) (hb : c.code = cc) (hl : l.stackTraces = false) {own cls text : String} {names : List String} {ik is ic mc ms sa : Nat} {A : Nat → Prop}
    (hown : s.vm.findClass own = some m.cls) (hcls : Bundle.fit cls = true) (hnames : ∀ n ∈ names, Bundle.fit n = true)
    (hk : (Cond.classLink own ik cls).before args s = true) (hini : (Cond.initialized cls).before args s = true) (hstr : vk_R own is text sa s) (hat : ∀ w ∈ vx_atS own ic cls names, w.before args s = true)
    (hgood : ∀ w ∈ Cond.classLink own ik cls :: Cond.initialized cls :: vx_atS own ic cls names, vx_ot w = true)
    (hU : vx_Zq Bundle.tN "UNASSIGNED_STACK" Bundle.steD A s s.heap) (hN : vx_Zq Bundle.tN "SUPPRESSED_SENTINEL" Bundle.listD A s s.heap) (hS : va_S A s.heap H locs) (hsize : ls.size = c.maxLocals)
    (d0 : decode cc pc = .ok (.new ik, 3)) (d3 : decode cc (pc + 3) = .ok (.dup, 1)) (d4 : decode cc (pc + 4) = .ok (.ldc_w is, 3)) (d7 : decode cc (pc + 7) = .ok (.invokespecial ic, 3)) (d10 : decode cc (pc + 10) = .ok (.athrow, 1))
    (hout : ∀ x ∈ c.exceptionTable.toList, covers x (pc + 10) = false)
    (hRframes : names.length + 3 < R.frames) (hRlocals : (rest.map fun v => v.category).sum + (13 * (names.length + 1) + 43) ≤ R.locals) (hRcells : cells + 1 ≤ R.cells) (hRslots : slots + 6 ≤ R.slots) (hlocks : meth.locks = false)
    (hx : ∀ t : State, s.vm.Alike t.vm → H.size ≤ t.heap.size → (∀ q : Nat, q < H.size → t.heap[q]? = H[q]?) → XC cls s t)
    (hf : ∀ z ∈ locs, free z.base) (hc : cells + 1 ≤ mc) (hs : slots + 6 ≤ ms) :
    W p l e R s m args below meth c H locs cells slots (vx_MQ below Qc XC args s mc ms free) (F0 m pc ls rest) := by
  intro T hT X
  have htr : e.platform.stackTraces = false := (show e.platform.stackTraces = l.stackTraces by rw [X.admits.platform]).trans hl
  have Y := vx_rebase X (R' := { frames := R.frames, locals := R.locals, cells := 1, slots := 6 }) (Nat.le_refl _) (Nat.le_refl _) hRcells hRslots
  obtain ⟨s', hA⟩ : ∃ z, z = (T.setVm s.vm).setFrames (.invoking m args :: below) := ⟨_, rfl⟩
  rw [← hA] at Y
  have hvm : s'.vm = s.vm := by rw [hA]; rfl
  have hhp : s'.heap = H := by rw [hA]; exact hT
  have hW0 : s.WarmedH s'.vm := by rw [hvm]; exact State.WarmedH.refl s
  have hat' : ∀ w ∈ vx_atS own ic cls names, w.before args s' = true := fun w hw => vx_ot_at hW0 hvm.symm (hgood w (List.mem_cons_of_mem _ (List.mem_cons_of_mem _ hw))) (hat w hw)
  have hk' : (Cond.classLink own ik cls).before args s' = true := vx_ot_at hW0 hvm.symm (hgood _ List.mem_cons_self) hk
  have hini' : (Cond.initialized cls).before args s' = true := vx_ot_at hW0 hvm.symm (hgood _ (List.mem_cons_of_mem _ List.mem_cons_self)) hini
  have hU' : vx_Zq Bundle.tN "UNASSIGNED_STACK" Bundle.steD A s' s'.heap := by rw [hhp]; exact vx_Zq.moved hW0.alike (hU.kept hS.2.1)
  have hN' : vx_Zq Bundle.tN "SUPPRESSED_SENTINEL" Bundle.listD A s' s'.heap := by rw [hhp]; exact vx_Zq.moved hW0.alike (hN.kept hS.2.1)
  have h : ∀ w ∈ Bundle.ownAtoms own ic cls names, w.before args s' = true := vx_own hat' (vx_isRefq hU'.1) (vx_isRefq hN'.1) hU'.2.word hN'.2.word
  have hown' : s'.vm.findClass own = some m.cls := by rw [hvm]; exact hown
  have hins : (Cond.instantiable cls 6).before args s' = true := h _ (by simp [Bundle.ownAtoms])
  obtain ⟨vm₁, cX, kX, hfX, hkX, -, -, X₁, st1⟩ := Y.newCold hexec (own := own) (C := cls) (index := ik) (n := 6) hown' hk' hins hini'
    (g := F0 m pc ls rest) rfl (by rw [hb]; exact d0) (Nat.le_refl _) (Nat.le_refl _)
  generalize hT1 : (T.setVm vm₁).pushCell { cls := cX, slots := kX.instanceTypes.map defaultValue, vm := .none } = T1 at X₁ st1
  have hcat : (Value.ref T.heap.size).category = 1 := rfl
  have hcellA : T1.heap[T.heap.size]? = some (freshCell cX kX) := by rw [← hT1]; exact State.heap_pushCell_size _ _
  have d3' : decode c.code (pc + 3) = .ok (.dup, 1) := by rw [hb]; exact d3
  have d4' : decode c.code (pc + 4) = .ok (.ldc_w is, 3) := by rw [hb]; exact d4
  have hstr' : vk_R own is text sa s' := vk_R.warm hW0 hstr
  obtain ⟨U, hsteps, hrun, hend, hW, hsame, ce, hce, hO⟩ := X₁.ctorThrowS hexec htr (own := own) (cls := cls) (names := names) (ic := ic) hown' hcls hnames h (fun x hx => nomatch hx) hfX hkX hcellA (by rw [hhp, hT]; exact Nat.le_refl _) (msg := .ref sa) rfl
    (g := { method := m, pc := pc + 7, locals := ls, stack := .ref sa :: .ref T.heap.size :: .ref T.heap.size :: rest, locked := none }) rfl hsize rfl rfl (rest := rest) rfl
    (by rw [hb]; exact d7) (by rw [hb]; exact d10) hout hRframes (by simp only [List.map_cons, List.sum_cons, hcat]; omega) hlocks
  obtain ⟨f1, f2⟩ := vx_frame hsame
  rw [hhp] at f1 f2
  have hWs : s.WarmedH U.vm := State.WarmedH.trans hW0 hW
  have hcl : s.vm.findClass cls = some ce.cls := by
    have h9 := hO.cls
    rw [hvm] at h9
    exact h9
  have hall : s.sameButNew ({ U with vm := s.vm } : State) locs mc ms := by
    subst hA
    obtain ⟨e1, e2⟩ := hsame
    rw [State.setFrames_setFrames] at e1
    have h2 : (T.setVm s.vm).sameButNew ({ U with vm := s.vm } : State) [] (0 + 1) (0 + 6) := ⟨e1, e2⟩
    have h3 := X.same.trans h2
    rw [List.append_nil] at h3
    exact h3.mono hc hs
  refine ⟨U, ?_, .threw T.heap.size, hrun, hend, Or.inr ⟨T.heap.size, rfl, cls, ce, locs, hx U hWs.alike f1 (fun q hq => f2 q hq (fun z hz => nomatch hz)), hce, hO.vm, hcl, hWs, hall, hf⟩⟩
  refine st1 _ ?_
  show Steps p.tables e below (T1.setTop { method := m, pc := pc + 3, locals := ls, stack := .ref T.heap.size :: rest, locked := none }) _
  jvm_step X₁.here [X₁.here.top, hexec, d3', Value.category]
  exact X₁.ldcStringW hexec (own := own) (text := text) (index := is) (a := sa) hown' hstr'.1 hstr'.2
    (g := { method := m, pc := pc + 4, locals := ls, stack := .ref T.heap.size :: .ref T.heap.size :: rest, locked := none }) rfl d4' _ hsteps
end Ends
section Bodies
variable {l : Launch}
theorem vx_ofW {y : MethodName} {ws ws' : List Cond} {rm : Room} {Pc : Array Value → State → Prop} {Qc : Array Value → State → Outcome → State → Prop} {XC : String → State → State → Prop} {mc ms : Nat} {free : Addr → Prop} {cc : ByteArray} {maxL : Nat} {ret : Option FieldType}
    (hy : plainName y.cls = true) (hw : ws = Cond.code y cc maxL ret :: ws')
    (body : ∀ p e s m args below meth c s₁, BodyLoose p l y (headSpec ws rm) cc maxL ret e s m args below meth c s₁ → c.maxLocals = maxL → (∀ x ∈ c.exceptionTable.toList, False) → Pc args s →
      W p l e (headSpec ws rm).room s m args below meth c s.heap [] 0 0 (vx_MQ below Qc XC args s mc ms free) (entryFrame m args maxL)) : vx_Met l y ws rm Pc Qc XC mc ms free := by
  refine MetFree.of_bodyS (code := cc) (maxLocals := maxL) (ret := ret) hy ?_ ?_
  · intro args s m h hn
    obtain ⟨meth, c, h1, h2, h3, h4, h5, h6, -, -⟩ := Cond.code_spec hn (atoms_spec (ws := ws) h _ (by rw [hw]; exact List.mem_cons_self))
    exact ⟨meth, c, h1, h2, h3, h4, h5, h6⟩
  · intro p e s m args below meth c s₁ B hml hP _
    have hh0 : s₁.heap = s.heap := by rw [B.state]; rfl
    have ht : ∀ x ∈ c.exceptionTable.toList, False := by
      obtain ⟨meth9, c9, h1, h2, -, -, -, -, h7, -⟩ := Cond.code_spec B.named (atoms_spec (ws := ws) B.pre _ (by rw [hw]; exact List.mem_cons_self))
      cases Option.some.inj (h1.symm.trans B.method)
      cases Option.some.inj (h2.symm.trans (Stand.of_body B).code)
      intro x hx
      rw [Array.isEmpty_iff.mp h7] at hx
      cases hx
    obtain ⟨t, a1, o, b1, b2, b3⟩ := body p e s m args below meth c s₁ B hml ht hP s₁ hh0 (Stand.of_body B)
    exact ⟨t, o, a1, b1, b2, b3⟩
/-- the table of a body with handlers -/
theorem vx_table {p : Program} {x y : MethodName} {S : Spec} {cc bytes : ByteArray} {maxL maxL' : Nat} {ret ret' : Option FieldType} {e : Env} {s s₁ : State} {m : MethodId} {args : Array Value} {below : List Frame} {meth : Method} {c : Code} {hh : List (Nat × Nat × Nat × Nat)}
    (B : BodyLoose p l y S cc maxL ret e s m args below meth c s₁) (h : (Cond.codeWith y bytes maxL' ret' hh).before args s = true) : c.exceptionTable.toList = tableOf hh := by
  obtain ⟨m9, meth9, c9, hn9, h1, h2, -, -, h6, -⟩ := Cond.codeWith_spec h
  cases Option.some.inj (hn9.symm.trans B.named)
  cases Option.some.inj (h1.symm.trans B.method)
  cases Option.some.inj (h2.symm.trans (Stand.of_body B).code)
  rw [← h6, table_eq]
end Bodies
end VXA
/-! ===== END ===== -/
/-! ===== BEGIN a static call of a method with an exception table ===== -/
section VXS
variable {p : Program} {l : Launch} {e : Env} {R : Room} {s : State} {m : MethodId} {args : Array Value} {below : List Frame} {meth : Method} {c : Code} {T : State} {H : Heap} {locs : List Loc} {cells slots : Nat}
abbrev vx_CSW (R : Room) (s : State) (args : Array Value) (own : String) (index : Nat) (y : MethodName) (bytes : ByteArray) (maxL : Nat) (ret : Option FieldType) (hh : List (Nat × Nat × Nat × Nat)) (ws : List Cond) (rm : Room) (mc ms n : Nat) : Prop :=
  (rm.cells = mc ∧ rm.slots = ms ∧ rm.frames + 1 ≤ R.frames ∧ 8 + (maxL + 11) + rm.locals ≤ R.locals ∧ (∀ w ∈ ws, ∀ (a' : Array Value) (U : State), s.WarmedH U.vm → w.before a' U = true) ∧ Cond.codeWith y bytes maxL ret hh ∈ ws) ∧
  (Cond.codeWith y bytes maxL ret hh).before args s = true ∧ (Cond.initialized y.cls).before args s = true ∧ (y.cls ≠ "java/lang/invoke/MethodHandle" ∧ y.cls ≠ "java/lang/invoke/VarHandle") ∧
  (∀ sig, parseMethodDescriptor y.desc = some sig → n = sig.parameters.length) ∧ (Cond.methodLink own index y).before args s = true ∧ (Cond.static y).before args s = true
theorem vx_cwSW {own : String} {index maxL mc ms : Nat} {y : MethodName} {bytes : ByteArray} {ret : Option FieldType} {hh : List (Nat × Nat × Nat × Nat)} {Ts ws ws' : List Cond} {rm : Room} (n : Nat) (ht : ∀ w ∈ Ts, w.before args s = true) (hT : GoodIn Ts (va_wsS own index y ws)) (hw : ws = Cond.codeWith y bytes maxL ret hh :: ws') (hrc : rm.cells = mc) (hrs : rm.slots = ms)
    (hd : y.cls ≠ "java/lang/invoke/MethodHandle" ∧ y.cls ≠ "java/lang/invoke/VarHandle" ∧ (parseMethodDescriptor y.desc).map (fun d => d.parameters.length) = some n) (hR : rm.frames + 1 ≤ R.frames ∧ 8 + (maxL + 11) + rm.locals ≤ R.locals) :
    vx_CSW R s args own index y bytes maxL ret hh ws rm mc ms n := by
  have ok : ∀ w ∈ va_wsS own index y ws, w.before args s = true := fun w h => ht w (hT w h).1
  have hG : GoodIn Ts ws := fun w h => hT w (by unfold va_wsS; exact List.mem_append_right _ h)
  have hc : Cond.codeWith y bytes maxL ret hh ∈ ws := by rw [hw]; exact List.mem_cons_self
  refine ⟨⟨hrc, hrs, hR.1, hR.2, pay_in ht hG, hc⟩, ht _ (hG _ hc).1, ok _ (by simp [va_wsS]), ⟨hd.1, hd.2.1⟩, fun sig h => ?_, ok _ (by simp [va_wsS]), ok _ (by simp [va_wsS])⟩
  have h2 := hd.2.2
  rw [h] at h2
  exact (Option.some.inj h2).symm
theorem vx_callSW (X : Stand p l e R s m args below meth c T locs cells slots) (hexec : p.tables.exec = Jvm.exec) {own : String} {index : Nat} {y : MethodName} {bytes : ByteArray} {maxL : Nat} {ret : Option FieldType} {hh : List (Nat × Nat × Nat × Nat)}
    (hown : s.vm.findClass own = some m.cls) (hlink : (Cond.methodLink own index y).before args s = true) (hstat : (Cond.static y).before args s = true) (hinit : (Cond.initialized y.cls).before args s = true)
    (hcode : (Cond.codeWith y bytes maxL ret hh).before args s = true) (hy : y.cls ≠ "java/lang/invoke/MethodHandle" ∧ y.cls ≠ "java/lang/invoke/VarHandle")
    {W9 : Nat} {Pre : Pt → Array Value → Prop} {Post : Pt → Array Value → Option Value → Pt → Prop} (hK : Back l R p e below s args y 3 W9 Pre Post)
    {g : JFrame} (hg : g.method = m) (hsize : g.locals.size = c.maxLocals) {argsL rest : List Value} (hlen : ∀ sig, parseMethodDescriptor y.desc = some sig → argsL.length = sig.parameters.length)
    (hstack : g.stack = argsL.reverse ++ rest) (hW : 2 * g.monitorRoom + (rest.map fun v => v.category).sum ≤ W9) (hdg : decode c.code g.pc = .ok (.invokestatic index, 3))
    (hpre : ∀ vm₁, s.WarmedH vm₁ → Pre ⟨T.setVm vm₁, locs, cells, slots⟩ argsL.toArray) :
    ∃ (v : Option Value) (vm₁ : Vm) (B : Pt), s.WarmedH vm₁ ∧ Stand p l e R s m args below meth c B.U B.locs B.cells B.slots ∧ Post ⟨T.setVm vm₁, locs, cells, slots⟩ argsL.toArray v B ∧
      ∀ target, Steps p.tables e below (B.U.setTop { g with pc := g.pc + 3, stack := v.toList ++ rest }) target → Steps p.tables e below (T.setTop g) target := by
  obtain ⟨mk, methM, cM, hnamed, hmethM, -, -, -, -, -, -, hsigM⟩ := Cond.codeWith_spec hcode
  have hstatic : methM.isStatic = true := Cond.static_spec hnamed hmethM hstat
  obtain ⟨kP, hkP, -⟩ := className_of_methodNamed hnamed
  have hinitP : kP.init = .initialized := Cond.initialized_spec (findClass_of_methodNamed hnamed) hkP hinit
  obtain ⟨vm₁, X₁, hstep₁⟩ := X.invokestatic hexec hown hlink hnamed hmethM hstatic hkP hinitP hy (g := g) hg (argsL := argsL) (rest := rest) (hlen _ hsigM) hstack hdg
  obtain ⟨v, B, X', hpost, hsteps⟩ := hK m meth c ⟨T.setVm vm₁, locs, cells, slots⟩ { g with stack := rest } (.invokestatic index) mk argsL.toArray X₁ hg hsize hdg hW (X₁.named hnamed) (hpre vm₁ X₁.warmed)
  exact ⟨v, vm₁, B, X₁.warmed, X', hpost, fun target h => hstep₁ _ fun acts => by rw [doInvoke_state]; exact hsteps.trans h⟩
theorem vx_runSW {y : MethodName} {bytes cc : ByteArray} {maxL nL mc ms n index : Nat} {ret : Option FieldType} {hh : List (Nat × Nat × Nat × Nat)} {ws : List Cond} {rm : Room} {Pc : Array Value → State → Prop} {Qc : Array Value → State → Outcome → State → Prop} {free : Addr → Prop} {Ts : List Cond} {own : String} {As rest : List Value} {g : JFrame}
    (S : CallFix p m c cc nL s args Ts own) (hM : Met l y ws rm Pc Qc mc ms free) (cw : vx_CSW R s args own index y bytes maxL ret hh ws rm mc ms n) (hp : PreS s H Pc As)
    (hg : g.method = m) (hn : As.length = n) (hsize : g.locals.size = nL) (hstack : g.stack = As.reverse ++ rest) (hW : 2 * g.monitorRoom + (rest.map fun v => v.category).sum ≤ 8) (hdg : decode cc g.pc = .ok (.invokestatic index, 3)) (hf : cells + mc ≤ R.cells ∧ slots + ms ≤ R.slots) :
    va_Run p l e R s m args below meth c H locs cells slots mc ms g rest (Qc As.toArray) (free) := by
  obtain ⟨⟨hrc, hrs, hfr, hlo, hws, hcw⟩, hcode, hini, hy, hlen, hl, hstt⟩ := cw
  have hK : Back l R p e below s args y 3 8 (PreOf R mc ms Pc) (PostOf Qc mc ms free) := va_backW (hh := hh) (bytes := bytes) (maxL := maxL) (ret := ret) hM hp.1 hrc hrs hfr hlo hws hcw (fun a' U hW => word_at hW (Or.inl (by first | rfl | simp [Cond.onTables, Cond.keeps, Cond.steady])) hini)
  obtain ⟨hx, hb, hml, ho, -⟩ := S
  intro T hT X
  obtain ⟨v, vm₁, ⟨U', l2, c2, s2⟩, hW₁, X', ⟨g', mk, t, L, e1, e2, hq, h1, hL, h2, h3⟩, st⟩ := vx_callSW X hx (hh := hh) (bytes := bytes) (maxL := maxL) (ret := ret) ho hl hstt hini hcode hy hK hg (hsize.trans hml.symm) (argsL := As) (rest := rest) (fun sig h => hn.trans (hlen sig h)) hstack hW (by rw [hb]; exact hdg)
    (fun vm₁ hW₁ => ⟨hf.1, hf.2, hp.2 (T.setVm vm₁) hT hW₁⟩)
  dsimp only [Pt.U, Pt.locs, Pt.cells, Pt.slots] at X' e1 e2 h1 h2 h3 st
  subst h1; subst h2; subst h3
  exact ⟨v, (T.setVm vm₁).calling g' mk As.toArray, t, U', L, hT, X', hL, e1, e2, hq, st⟩
/-- a thing of a world lies in the heap -/
theorem vx_lt {D : va_G} {cl : List vw_C} {ws : va_W} {H1 : Heap} (h : va_P D cl ws H1) {k : Nat} {q : Nat × va_E} (hk : ws[k]? = some q) : q.1 < H1.size := (h k q hk).lt
end VXS
/-! ===== END ===== -/
/-! ===== BEGIN methods with a table of their own: called by a name, returning or throwing ===== -/
section VXH
/-! vx_backW, vx_callVX, vx_callSX, vx_callVW, vx_runVW, vx_runVX, vx_runSX, vx_ofWH follow the same proofs as their sisters above (Free/Laws.lean, Shelf42/LK1.lean); vx_outP calls Shelf42/NT130.lean (outThrough). -/
section
variable {l : Launch} {R : Room} {p : Program} {e : Env} {below : List Frame} {s : State} {sargs : Array Value} {y : MethodName} {len W9 : Nat}
theorem vx_backW {ws : List Cond} {rm : Room} {Pc : Array Value → State → Prop} {Qc : Array Value → State → Outcome → State → Prop} {XC : String → State → State → Prop} {mc ms : Nat} {free : Addr → Prop} {bytes : ByteArray} {maxL : Nat} {ret : Option FieldType} {hh : List (Nat × Nat × Nat × Nat)}
    (hM : vx_Met l y ws rm Pc Qc XC mc ms free) (hblind : FrameBlind Pc) (hrc : rm.cells = mc) (hrs : rm.slots = ms)
    (hframes : rm.frames + 1 ≤ R.frames) (hlocals : W9 + (maxL + 11) + rm.locals ≤ R.locals)
    (hws : ∀ w ∈ ws, ∀ a' U, s.WarmedH U.vm → w.before a' U = true) (hcode : Cond.codeWith y bytes maxL ret hh ∈ ws) (hinit : ∀ a' U, s.WarmedH U.vm → (Cond.initialized y.cls).before a' U = true) :
    vx_Back l R p e below s sargs y len W9 (PreOf R mc ms Pc) (PostOf Qc mc ms free) (vx_Post XC mc ms free) := by
  intro m meth c A g ig mk a X hg hsize hdg hW hn hp
  have h1 : (headSpec ws rm).pre.before a A.U = true := atoms_intro fun w hw => hws w hw _ _ X.warmed
  have h2 : (Cond.codeWith y bytes maxL ret hh).before a A.U = true := hws _ hcode _ _ X.warmed
  have h3 : (Cond.initialized y.cls).before a A.U = true := hinit _ _ X.warmed
  have h4 : A.cells + (headSpec ws rm).room.cells ≤ R.cells := by rw [show (headSpec ws rm).room.cells = mc from hrc]; exact hp.1
  have h5 : A.slots + (headSpec ws rm).room.slots ≤ R.slots := by rw [show (headSpec ws rm).room.slots = ms from hrs]; exact hp.2.1
  have hPc : Pc a (A.U.calling g mk a) := hblind _ _ _ _ hp.2.2
  obtain ⟨U, Ls, c0, s0⟩ := A
  dsimp only [Pt.U, Pt.locs, Pt.cells, Pt.slots] at h1 h2 h3 h4 h5 X hn hPc ⊢
  obtain ⟨m9, methY, cY, hn9, hmY, hcY, -, hlY, -⟩ := Cond.codeWith_spec h2
  cases Option.some.inj (hn9.symm.trans hn)
  obtain ⟨kY, hkY, -⟩ := className_of_methodNamed hn
  have hinitY : kY.init = .initialized := Cond.initialized_spec (findClass_of_methodNamed hn) hkY h3
  have h : At U g.method c below := by rw [hg]; exact X.here
  have hlocals9 : W9 + (maxL + 11) + (headSpec ws rm).room.locals ≤ R.locals := hlocals
  have happ : (headSpec ws rm).appliesLoose y e.platform (U.calling g mk a) = true :=
    Spec.appliesLoose_calling (g := g) h hdg hn hkY hinitY
      (X.room_calling (g := g) (R' := (headSpec ws rm).room) hsize hmY hcY hframes (by rw [hlY]; omega) h4 h5) h1
  obtain ⟨mid, hmid⟩ := h.above
  have hfr : (U.setTop g).frames = (.java g :: mid) ++ below := by rw [State.frames_setTop' g h.top, hmid]; rfl
  obtain ⟨o, s₂, hsteps, -, hend, hq⟩ := Steps.callFree hM p X.admits X.cas X.clock (acts := []) hfr happ hPc trivial
  have hq' : vx_Q Qc XC mc ms free a (U.calling g mk a) o s₂ := hq
  rw [State.frames_setTop' g h.top] at hend
  obtain ⟨g₀, hg0⟩ := Option.isSome_iff_exists.mp h.top
  obtain ⟨r, hr⟩ := State.topJava?_eq_some.mp hg0
  have hr' : (({ U with heap := s₂.heap, slotsUsed := s₂.slotsUsed } : State).setVm s₂.vm).frames = .java g₀ :: r := hr
  rcases hq' with ⟨hqc, L, hfe, hL⟩ | ⟨q, rfl, E, ce, L, hx, hce, hcv, hcl, hW₂, hsm, hL⟩
  · obtain ⟨⟨v, rfl⟩, hW₂, e2, q2, q3, q4, q5, q6⟩ := id hfe
    have e3 : s₂ = ({ (U.calling g mk a).setFrames s₂.frames with heap := s₂.heap, slotsUsed := s₂.slotsUsed } : State).setVm s₂.vm := by
      have : s₂ = ({ s₂ with vm := (U.calling g mk a).vm } : State).setVm s₂.vm := rfl
      rw [e2] at this
      exact this
    obtain ⟨c₂, i₂, len₂, hc₂, hd₂, hf₂⟩ := hend
    have hW' : U.WarmedH s₂.vm := hW₂
    have hcc : c₂ = c := by
      have h1 : s₂.code? g.method = U.code? g.method := by
        rw [State.code?_eq, State.code?_eq, hW'.alike.method?]
      exact Option.some.inj (hc₂.symm.trans (h1.trans h.code))
    subst hcc
    have hlen : len₂ = len := by rw [hdg] at hd₂; cases hd₂; rfl
    subst hlen
    have hs₂ : s₂ = (({ U with heap := s₂.heap, slotsUsed := s₂.slotsUsed } : State).setVm s₂.vm).setTop { g with pc := g.pc + len₂, stack := v.toList ++ g.stack } := by
      refine e3.trans ?_
      rw [hf₂, State.calling_eq h.top, State.setFrames_setFrames, State.setTop_of_frames _ hr', hr]
      rfl
    have hsame : U.sameButNew ({ U with heap := s₂.heap, slotsUsed := s₂.slotsUsed } : State) L mc ms := by
      refine ⟨?_, q2, q3, q4, q5, q6⟩
      obtain ⟨t, ht, -⟩ := State.frames_cons hr
      show ({ U with heap := s₂.heap, slotsUsed := s₂.slotsUsed } : State) = { U.setFrames U.frames with heap := s₂.heap, slotsUsed := s₂.slotsUsed }
      rw [State.setFrames_self ht]
    subst hg
    refine Or.inl ⟨v, ⟨(({ U with heap := s₂.heap, slotsUsed := s₂.slotsUsed } : State).setVm s₂.vm), Ls ++ L, c0 + mc, s0 + ms⟩,
      ⟨X.admits, X.cas, X.clock, X.frames, X.room, X.hears, X.method, X.code, (X.here.setHeapUsed s₂.heap s₂.slotsUsed).setVm hW'.alike, X.tail, State.WarmedH.trans X.warmed hW', X.limits, X.bytes, X.same.trans (hsame.setVm s.vm)⟩,
      ⟨g, mk, s₂, L, rfl, rfl, hqc, rfl, hL, rfl, rfl⟩, ?_⟩
    show Steps p.tables e below _ ((({ U with heap := s₂.heap, slotsUsed := s₂.slotsUsed } : State).setVm s₂.vm).setTop { g with pc := g.pc + len₂, stack := v.toList ++ g.stack })
    rw [← hs₂]
    exact hsteps
  · obtain ⟨e2, q2, q3, q4, q5, q6⟩ := id hsm
    have e3 : s₂ = ({ (U.calling g mk a).setFrames s₂.frames with heap := s₂.heap, slotsUsed := s₂.slotsUsed } : State).setVm s₂.vm := by
      have : s₂ = ({ s₂ with vm := (U.calling g mk a).vm } : State).setVm s₂.vm := rfl
      rw [e2] at this
      exact this
    have hf₂ : s₂.frames = .throwing q :: .java g :: U.frames.tail := hend
    have hW' : U.WarmedH s₂.vm := hW₂
    have hs₂ : s₂ = ((({ U with heap := s₂.heap, slotsUsed := s₂.slotsUsed } : State).setVm s₂.vm).setTop g).pushFrame (.throwing q) := by
      refine e3.trans ?_
      rw [hf₂, State.calling_eq h.top, State.setFrames_setFrames, State.pushFrame, State.frames_setTop _ hr', State.setTop_of_frames _ hr', State.setFrames_setFrames, hr]
      rfl
    have hsame : U.sameButNew ({ U with heap := s₂.heap, slotsUsed := s₂.slotsUsed } : State) L mc ms := by
      refine ⟨?_, q2, q3, q4, q5, q6⟩
      obtain ⟨t, ht, -⟩ := State.frames_cons hr
      show ({ U with heap := s₂.heap, slotsUsed := s₂.slotsUsed } : State) = { U.setFrames U.frames with heap := s₂.heap, slotsUsed := s₂.slotsUsed }
      rw [State.setFrames_self ht]
    subst hg
    refine Or.inr ⟨q, ⟨(({ U with heap := s₂.heap, slotsUsed := s₂.slotsUsed } : State).setVm s₂.vm), Ls ++ L, c0 + mc, s0 + ms⟩,
      ⟨X.admits, X.cas, X.clock, X.frames, X.room, X.hears, X.method, X.code, (X.here.setHeapUsed s₂.heap s₂.slotsUsed).setVm hW'.alike, X.tail, State.WarmedH.trans X.warmed hW', X.limits, X.bytes, X.same.trans (hsame.setVm s.vm)⟩,
      ⟨g, mk, s₂, L, E, ce, rfl, rfl, hx, hce, hcv, hcl, rfl, hL, rfl, rfl⟩, ?_⟩
    show Steps p.tables e below _ (((({ U with heap := s₂.heap, slotsUsed := s₂.slotsUsed } : State).setVm s₂.vm).setTop g).pushFrame (.throwing q))
    rw [← hs₂]
    exact hsteps
end
variable {p : Program} {l : Launch} {e : Env} {R : Room} {s : State} {m : MethodId} {args : Array Value} {below : List Frame} {meth : Method} {c : Code} {T : State} {H : Heap} {locs : List Loc} {cells slots : Nat}
theorem vx_callVX (X : Stand p l e R s m args below meth c T locs cells slots) (hexec : p.tables.exec = Jvm.exec) {own C : String} {index : Nat} {y : MethodName} {bytes : ByteArray} {maxL : Nat} {ret : Option FieldType} {hh : List (Nat × Nat × Nat × Nat)}
    (hown : s.vm.findClass own = some m.cls) (hlink : (Cond.methodLink own index y).before args s = true) (hinst : (Cond.instanceMethod y).before args s = true) (hsel : (Cond.selects C y y).before args s = true)
    (hcode : (Cond.codeWith y bytes maxL ret hh).before args s = true) (hy : y.cls ≠ "java/lang/invoke/MethodHandle" ∧ y.cls ≠ "java/lang/invoke/VarHandle")
    {W9 : Nat} {Pre : Pt → Array Value → Prop} {Post : Pt → Array Value → Option Value → Pt → Prop} {PostX : Pt → Array Value → Addr → Pt → Prop} (hK : vx_Back l R p e below s args y 3 W9 Pre Post PostX)
    {b : Addr} {cellB : Cell} (hcell : T.heap[b]? = some cellB) (hobj : cellB.vm.isStatics = false) (hcls : s.vm.findClass C = some cellB.cls)
    {g : JFrame} (hg : g.method = m) (hsize : g.locals.size = c.maxLocals) {argsL rest : List Value} (hlen : ∀ sig, parseMethodDescriptor y.desc = some sig → argsL.length = sig.parameters.length)
    (hstack : g.stack = argsL.reverse ++ .ref b :: rest) (hW : 2 * g.monitorRoom + (rest.map fun v => v.category).sum ≤ W9) (hdg : decode c.code g.pc = .ok (.invokevirtual index, 3))
    (hpre : ∀ vm₁, s.WarmedH vm₁ → Pre ⟨T.setVm vm₁, locs, cells, slots⟩ (Value.ref b :: argsL).toArray) :
    (∃ (v : Option Value) (vm₁ : Vm) (B : Pt), s.WarmedH vm₁ ∧ Stand p l e R s m args below meth c B.U B.locs B.cells B.slots ∧ Post ⟨T.setVm vm₁, locs, cells, slots⟩ (Value.ref b :: argsL).toArray v B ∧
      ∀ target, Steps p.tables e below (B.U.setTop { g with pc := g.pc + 3, stack := v.toList ++ rest }) target → Steps p.tables e below (T.setTop g) target) ∨
    (∃ (q : Addr) (vm₁ : Vm) (B : Pt), s.WarmedH vm₁ ∧ Stand p l e R s m args below meth c B.U B.locs B.cells B.slots ∧ PostX ⟨T.setVm vm₁, locs, cells, slots⟩ (Value.ref b :: argsL).toArray q B ∧
      Steps p.tables e below (T.setTop g) ((B.U.setTop { g with stack := rest }).pushFrame (.throwing q))) := by
  obtain ⟨mk, methM, hnamed, hmethM, hstM, habM⟩ := Cond.instanceMethod_spec hinst
  obtain ⟨m8, methM', cM, hn8, hmethM', -, -, -, -, -, -, hsigM⟩ := Cond.codeWith_spec hcode
  cases Option.some.inj (hn8.symm.trans hnamed)
  cases hmethM.symm.trans hmethM'
  obtain ⟨c2, r2, m2, q1, q2, q3, q4, kP, hkP, hkPi⟩ := Cond.selects_spec hsel
  cases hcls.symm.trans q1
  cases (State.methodFound?_of_named hnamed hy).symm.trans q2
  cases hnamed.symm.trans q3
  have hselP : selectMethod e.platform s.vm cellB.cls mk = .method mk := by rw [Launch.admits_selectMethod X.admits]; exact q4
  obtain ⟨vm₁, X₁, hstep₁⟩ := X.invokevirtual hexec hown hlink hnamed hmethM hstM hkP hkPi hy (a := b) (cell := cellB) hcell
    (fun z h => by rw [h] at hobj; cases hobj) hselP hmethM habM hkP hkPi (g := g) hg (argsL := argsL) (rest := rest) (hlen _ hsigM) hstack hdg
  rcases hK m meth c ⟨T.setVm vm₁, locs, cells, slots⟩ { g with stack := rest } (.invokevirtual index) mk (Value.ref b :: argsL).toArray X₁ hg hsize hdg hW (X₁.named hnamed) (hpre vm₁ X₁.warmed) with ⟨v, B, X', hpost, hsteps⟩ | ⟨q, B, X', hpost, hsteps⟩
  · exact Or.inl ⟨v, vm₁, B, X₁.warmed, X', hpost, fun target h => hstep₁ _ fun acts => by rw [doInvoke_state]; exact hsteps.trans h⟩
  · exact Or.inr ⟨q, vm₁, B, X₁.warmed, X', hpost, hstep₁ _ fun acts => by rw [doInvoke_state]; exact hsteps⟩
theorem vx_callSX (X : Stand p l e R s m args below meth c T locs cells slots) (hexec : p.tables.exec = Jvm.exec) {own : String} {index : Nat} {y : MethodName} {bytes : ByteArray} {maxL : Nat} {ret : Option FieldType} {hh : List (Nat × Nat × Nat × Nat)}
    (hown : s.vm.findClass own = some m.cls) (hlink : (Cond.methodLink own index y).before args s = true) (hstat : (Cond.static y).before args s = true) (hinit : (Cond.initialized y.cls).before args s = true)
    (hcode : (Cond.codeWith y bytes maxL ret hh).before args s = true) (hy : y.cls ≠ "java/lang/invoke/MethodHandle" ∧ y.cls ≠ "java/lang/invoke/VarHandle")
    {W9 : Nat} {Pre : Pt → Array Value → Prop} {Post : Pt → Array Value → Option Value → Pt → Prop} {PostX : Pt → Array Value → Addr → Pt → Prop} (hK : vx_Back l R p e below s args y 3 W9 Pre Post PostX)
    {g : JFrame} (hg : g.method = m) (hsize : g.locals.size = c.maxLocals) {argsL rest : List Value} (hlen : ∀ sig, parseMethodDescriptor y.desc = some sig → argsL.length = sig.parameters.length)
    (hstack : g.stack = argsL.reverse ++ rest) (hW : 2 * g.monitorRoom + (rest.map fun v => v.category).sum ≤ W9) (hdg : decode c.code g.pc = .ok (.invokestatic index, 3))
    (hpre : ∀ vm₁, s.WarmedH vm₁ → Pre ⟨T.setVm vm₁, locs, cells, slots⟩ argsL.toArray) :
    (∃ (v : Option Value) (vm₁ : Vm) (B : Pt), s.WarmedH vm₁ ∧ Stand p l e R s m args below meth c B.U B.locs B.cells B.slots ∧ Post ⟨T.setVm vm₁, locs, cells, slots⟩ argsL.toArray v B ∧
      ∀ target, Steps p.tables e below (B.U.setTop { g with pc := g.pc + 3, stack := v.toList ++ rest }) target → Steps p.tables e below (T.setTop g) target) ∨
    (∃ (q : Addr) (vm₁ : Vm) (B : Pt), s.WarmedH vm₁ ∧ Stand p l e R s m args below meth c B.U B.locs B.cells B.slots ∧ PostX ⟨T.setVm vm₁, locs, cells, slots⟩ argsL.toArray q B ∧
      Steps p.tables e below (T.setTop g) ((B.U.setTop { g with stack := rest }).pushFrame (.throwing q))) := by
  obtain ⟨mk, methM, cM, hnamed, hmethM, -, -, -, -, -, -, hsigM⟩ := Cond.codeWith_spec hcode
  have hstatic : methM.isStatic = true := Cond.static_spec hnamed hmethM hstat
  obtain ⟨kP, hkP, -⟩ := className_of_methodNamed hnamed
  have hinitP : kP.init = .initialized := Cond.initialized_spec (findClass_of_methodNamed hnamed) hkP hinit
  obtain ⟨vm₁, X₁, hstep₁⟩ := X.invokestatic hexec hown hlink hnamed hmethM hstatic hkP hinitP hy (g := g) hg (argsL := argsL) (rest := rest) (hlen _ hsigM) hstack hdg
  rcases hK m meth c ⟨T.setVm vm₁, locs, cells, slots⟩ { g with stack := rest } (.invokestatic index) mk argsL.toArray X₁ hg hsize hdg hW (X₁.named hnamed) (hpre vm₁ X₁.warmed) with ⟨v, B, X', hpost, hsteps⟩ | ⟨q, B, X', hpost, hsteps⟩
  · exact Or.inl ⟨v, vm₁, B, X₁.warmed, X', hpost, fun target h => hstep₁ _ fun acts => by rw [doInvoke_state]; exact hsteps.trans h⟩
  · exact Or.inr ⟨q, vm₁, B, X₁.warmed, X', hpost, hstep₁ _ fun acts => by rw [doInvoke_state]; exact hsteps⟩
theorem vx_callVW (X : Stand p l e R s m args below meth c T locs cells slots) (hexec : p.tables.exec = Jvm.exec) {own C : String} {index : Nat} {y : MethodName} {bytes : ByteArray} {maxL : Nat} {ret : Option FieldType} {hh : List (Nat × Nat × Nat × Nat)}
    (hown : s.vm.findClass own = some m.cls) (hlink : (Cond.methodLink own index y).before args s = true) (hinst : (Cond.instanceMethod y).before args s = true) (hsel : (Cond.selects C y y).before args s = true)
    (hcode : (Cond.codeWith y bytes maxL ret hh).before args s = true) (hy : y.cls ≠ "java/lang/invoke/MethodHandle" ∧ y.cls ≠ "java/lang/invoke/VarHandle")
    {W9 : Nat} {Pre : Pt → Array Value → Prop} {Post : Pt → Array Value → Option Value → Pt → Prop} (hK : Back l R p e below s args y 3 W9 Pre Post)
    {b : Addr} {cellB : Cell} (hcell : T.heap[b]? = some cellB) (hobj : cellB.vm.isStatics = false) (hcls : s.vm.findClass C = some cellB.cls)
    {g : JFrame} (hg : g.method = m) (hsize : g.locals.size = c.maxLocals) {argsL rest : List Value} (hlen : ∀ sig, parseMethodDescriptor y.desc = some sig → argsL.length = sig.parameters.length)
    (hstack : g.stack = argsL.reverse ++ .ref b :: rest) (hW : 2 * g.monitorRoom + (rest.map fun v => v.category).sum ≤ W9) (hdg : decode c.code g.pc = .ok (.invokevirtual index, 3))
    (hpre : ∀ vm₁, s.WarmedH vm₁ → Pre ⟨T.setVm vm₁, locs, cells, slots⟩ (Value.ref b :: argsL).toArray) :
    ∃ (v : Option Value) (vm₁ : Vm) (B : Pt), s.WarmedH vm₁ ∧ Stand p l e R s m args below meth c B.U B.locs B.cells B.slots ∧ Post ⟨T.setVm vm₁, locs, cells, slots⟩ (Value.ref b :: argsL).toArray v B ∧
      ∀ target, Steps p.tables e below (B.U.setTop { g with pc := g.pc + 3, stack := v.toList ++ rest }) target → Steps p.tables e below (T.setTop g) target := by
  obtain ⟨mk, methM, hnamed, hmethM, hstM, habM⟩ := Cond.instanceMethod_spec hinst
  obtain ⟨m8, methM', cM, hn8, hmethM', -, -, -, -, -, -, hsigM⟩ := Cond.codeWith_spec hcode
  cases Option.some.inj (hn8.symm.trans hnamed)
  cases hmethM.symm.trans hmethM'
  obtain ⟨c2, r2, m2, q1, q2, q3, q4, kP, hkP, hkPi⟩ := Cond.selects_spec hsel
  cases hcls.symm.trans q1
  cases (State.methodFound?_of_named hnamed hy).symm.trans q2
  cases hnamed.symm.trans q3
  have hselP : selectMethod e.platform s.vm cellB.cls mk = .method mk := by rw [Launch.admits_selectMethod X.admits]; exact q4
  obtain ⟨vm₁, X₁, hstep₁⟩ := X.invokevirtual hexec hown hlink hnamed hmethM hstM hkP hkPi hy (a := b) (cell := cellB) hcell
    (fun z h => by rw [h] at hobj; cases hobj) hselP hmethM habM hkP hkPi (g := g) hg (argsL := argsL) (rest := rest) (hlen _ hsigM) hstack hdg
  obtain ⟨v, B, X', hpost, hsteps⟩ := hK m meth c ⟨T.setVm vm₁, locs, cells, slots⟩ { g with stack := rest } (.invokevirtual index) mk (Value.ref b :: argsL).toArray X₁ hg hsize hdg hW (X₁.named hnamed) (hpre vm₁ X₁.warmed)
  exact ⟨v, vm₁, B, X₁.warmed, X', hpost, fun target h => hstep₁ _ fun acts => by rw [doInvoke_state]; exact hsteps.trans h⟩
abbrev vx_CVW (R : Room) (s : State) (args : Array Value) (own C : String) (index : Nat) (y : MethodName) (bytes : ByteArray) (maxL : Nat) (ret : Option FieldType) (hh : List (Nat × Nat × Nat × Nat)) (ws : List Cond) (rm : Room) (mc ms n : Nat) : Prop :=
  (rm.cells = mc ∧ rm.slots = ms ∧ rm.frames + 1 ≤ R.frames ∧ 8 + (maxL + 11) + rm.locals ≤ R.locals ∧ (∀ w ∈ ws, ∀ (a' : Array Value) (U : State), s.WarmedH U.vm → w.before a' U = true) ∧ Cond.codeWith y bytes maxL ret hh ∈ ws) ∧
  (Cond.codeWith y bytes maxL ret hh).before args s = true ∧ (Cond.initialized y.cls).before args s = true ∧ (y.cls ≠ "java/lang/invoke/MethodHandle" ∧ y.cls ≠ "java/lang/invoke/VarHandle") ∧
  (∀ sig, parseMethodDescriptor y.desc = some sig → n = sig.parameters.length) ∧ (Cond.methodLink own index y).before args s = true ∧ (Cond.instanceMethod y).before args s = true ∧ (Cond.selects C y y).before args s = true
theorem vx_cwVW {own C : String} {index maxL mc ms : Nat} {y : MethodName} {bytes : ByteArray} {ret : Option FieldType} {hh : List (Nat × Nat × Nat × Nat)} {Ts ws ws' : List Cond} {rm : Room} (n : Nat) (ht : ∀ w ∈ Ts, w.before args s = true) (hT : GoodIn Ts (wsV own index C y ws)) (hw : ws = Cond.codeWith y bytes maxL ret hh :: ws') (hrc : rm.cells = mc) (hrs : rm.slots = ms)
    (hd : y.cls = C ∧ y.cls ≠ "java/lang/invoke/MethodHandle" ∧ y.cls ≠ "java/lang/invoke/VarHandle" ∧ (parseMethodDescriptor y.desc).map (fun d => d.parameters.length) = some n) (hR : rm.frames + 1 ≤ R.frames ∧ 8 + (maxL + 11) + rm.locals ≤ R.locals) :
    vx_CVW R s args own C index y bytes maxL ret hh ws rm mc ms n := by
  obtain ⟨hC, hd⟩ := hd
  subst hC
  have ok : ∀ w ∈ wsV own index y.cls y ws, w.before args s = true := fun w h => ht w (hT w h).1
  have hG : GoodIn Ts ws := fun w h => hT w (by unfold wsV; exact List.mem_append_right _ h)
  have hc : Cond.codeWith y bytes maxL ret hh ∈ ws := by rw [hw]; exact List.mem_cons_self
  refine ⟨⟨hrc, hrs, hR.1, hR.2, pay_in ht hG, hc⟩, ht _ (hG _ hc).1, ok _ (by simp [wsV]), ⟨hd.1, hd.2.1⟩, fun sig h => ?_, ok _ (by simp [wsV]), ok _ (by simp [wsV]), ok _ (by simp [wsV])⟩
  have h2 := hd.2.2
  rw [h] at h2
  exact (Option.some.inj h2).symm
theorem vx_runVW {y : MethodName} {bytes cc : ByteArray} {maxL nL mc ms n index : Nat} {ret : Option FieldType} {hh : List (Nat × Nat × Nat × Nat)} {ws : List Cond} {rm : Room} {Pc : Array Value → State → Prop} {Qc : Array Value → State → Outcome → State → Prop} {free : Addr → Prop} {Ts : List Cond} {own C : String} {b : Addr} {As rest : List Value} {g : JFrame}
    (S : CallFix p m c cc nL s args Ts own) (hM : Met l y ws rm Pc Qc mc ms free) (cw : vx_CVW R s args own C index y bytes maxL ret hh ws rm mc ms n) (hp : PreV s H C b Pc As)
    (hg : g.method = m) (hn : As.length = n) (hsize : g.locals.size = nL) (hstack : g.stack = As.reverse ++ .ref b :: rest) (hW : 2 * g.monitorRoom + (rest.map fun v => v.category).sum ≤ 8) (hdg : decode cc g.pc = .ok (.invokevirtual index, 3)) (hf : cells + mc ≤ R.cells ∧ slots + ms ≤ R.slots) :
    va_Run p l e R s m args below meth c H locs cells slots mc ms g rest (Qc (Value.ref b :: As).toArray) free := by
  obtain ⟨⟨hrc, hrs, hfr, hlo, hws, hcw⟩, hcode, hini, hy, hlen, hl, hin, hse⟩ := cw
  have hK : Back l R p e below s args y 3 8 (PreOf R mc ms Pc) (PostOf Qc mc ms free) := va_backW (hh := hh) (bytes := bytes) (maxL := maxL) (ret := ret) hM hp.1 hrc hrs hfr hlo hws hcw (fun a' U hW => word_at hW (Or.inl (by first | rfl | simp [Cond.onTables, Cond.keeps, Cond.steady])) hini)
  obtain ⟨hx, hb, hml, ho, -⟩ := S
  obtain ⟨-, ⟨cellB, hcB, hoB, hclB⟩, hPc⟩ := hp
  intro T hT X
  obtain ⟨v, vm₁, ⟨U', l2, c2, s2⟩, hW₁, X', ⟨g', mk, t, L, e1, e2, hq, h1, hL, h2, h3⟩, st⟩ := vx_callVW X hx (C := C) (hh := hh) (bytes := bytes) (maxL := maxL) (ret := ret) ho hl hin hse hcode hy hK (by rw [hT]; exact hcB) hoB hclB hg (hsize.trans hml.symm) (argsL := As) (rest := rest) (fun sig h => hn.trans (hlen sig h)) hstack hW (by rw [hb]; exact hdg)
    (fun vm₁ hW₁ => ⟨hf.1, hf.2, hPc (T.setVm vm₁) hT hW₁⟩)
  dsimp only [Pt.U, Pt.locs, Pt.cells, Pt.slots] at X' e1 e2 h1 h2 h3 st
  subst h1; subst h2; subst h3
  exact ⟨v, (T.setVm vm₁).calling g' mk (Value.ref b :: As).toArray, t, U', L, hT, X', hL, e1, e2, hq, st⟩
section
variable {y : MethodName} {bytes cc : ByteArray} {maxL nL mc ms n index : Nat} {ret : Option FieldType} {ws : List Cond} {rm : Room} {Pc : Array Value → State → Prop} {Qc : Array Value → State → Outcome → State → Prop} {XC : String → State → State → Prop} {free : Addr → Prop} {Ts : List Cond} {own C : String} {b : Addr} {As rest : List Value} {g : JFrame}
theorem vx_runVX {hh : List (Nat × Nat × Nat × Nat)} (S : CallFix p m c cc nL s args Ts own) (hM : vx_Met l y ws rm Pc Qc XC mc ms free) (cw : vx_CVW R s args own C index y bytes maxL ret hh ws rm mc ms n) (hp : PreV s H C b Pc As)
    (hg : g.method = m) (hn : As.length = n) (hsize : g.locals.size = nL) (hstack : g.stack = As.reverse ++ .ref b :: rest) (hW : 2 * g.monitorRoom + (rest.map fun v => v.category).sum ≤ 8) (hdg : decode cc g.pc = .ok (.invokevirtual index, 3)) (hf : cells + mc ≤ R.cells ∧ slots + ms ≤ R.slots) :
    vx_Run p l e R s m args below meth c H locs cells slots mc ms g rest (Qc (Value.ref b :: As).toArray) XC free := by
  obtain ⟨⟨hrc, hrs, hfr, hlo, hws, hcw⟩, hcode, hini, hy, hlen, hl, hin, hse⟩ := cw
  have hK : vx_Back l R p e below s args y 3 8 (PreOf R mc ms Pc) (PostOf Qc mc ms free) (vx_Post XC mc ms free) := vx_backW (hh := hh) (bytes := bytes) (maxL := maxL) (ret := ret) hM hp.1 hrc hrs hfr hlo hws hcw (fun a' U hW => word_at hW (Or.inl (by first | rfl | simp [Cond.onTables, Cond.keeps, Cond.steady])) hini)
  obtain ⟨hx, hb, hml, ho, -⟩ := S
  obtain ⟨-, ⟨cellB, hcB, hoB, hclB⟩, hPc⟩ := hp
  intro T hT X
  rcases vx_callVX X hx (C := C) (hh := hh) (bytes := bytes) (maxL := maxL) (ret := ret) ho hl hin hse hcode hy hK (by rw [hT]; exact hcB) hoB hclB hg (hsize.trans hml.symm) (argsL := As) (rest := rest) (fun sig h => hn.trans (hlen sig h)) hstack hW (by rw [hb]; exact hdg)
    (fun vm₁ hW₁ => ⟨hf.1, hf.2, hPc (T.setVm vm₁) hT hW₁⟩) with ⟨v, vm₁, ⟨U', l2, c2, s2⟩, hW₁, X', ⟨g', mk, t, L, e1, e2, hq, h1, hL, h2, h3⟩, st⟩ | ⟨q, vm₁, ⟨U', l2, c2, s2⟩, hW₁, X', ⟨g', mk, t, L, E, ce, e1, e2, hq, hce, hcv, hcl, h1, hL, h2, h3⟩, st⟩
  · dsimp only [Pt.U, Pt.locs, Pt.cells, Pt.slots] at X' e1 e2 h1 h2 h3 st
    subst h1; subst h2; subst h3
    exact Or.inl ⟨v, (T.setVm vm₁).calling g' mk (Value.ref b :: As).toArray, t, U', L, hT, X', hL, e1, e2, hq, st⟩
  · dsimp only [Pt.U, Pt.locs, Pt.cells, Pt.slots] at X' e1 e2 h1 h2 h3 st hcl
    subst h1; subst h2; subst h3
    exact Or.inr ⟨q, (T.setVm vm₁).calling g' mk (Value.ref b :: As).toArray, t, U', L, E, ce, hT, X', hL, e1, e2, hq, hce, hcv, vx_cls hW₁ hcl, st⟩
theorem vx_runSX {hh : List (Nat × Nat × Nat × Nat)} (S : CallFix p m c cc nL s args Ts own) (hM : vx_Met l y ws rm Pc Qc XC mc ms free) (cw : vx_CSW R s args own index y bytes maxL ret hh ws rm mc ms n) (hp : PreS s H Pc As)
    (hg : g.method = m) (hn : As.length = n) (hsize : g.locals.size = nL) (hstack : g.stack = As.reverse ++ rest) (hW : 2 * g.monitorRoom + (rest.map fun v => v.category).sum ≤ 8) (hdg : decode cc g.pc = .ok (.invokestatic index, 3)) (hf : cells + mc ≤ R.cells ∧ slots + ms ≤ R.slots) :
    vx_Run p l e R s m args below meth c H locs cells slots mc ms g rest (Qc As.toArray) XC free := by
  obtain ⟨⟨hrc, hrs, hfr, hlo, hws, hcw⟩, hcode, hini, hy, hlen, hl, hstt⟩ := cw
  have hK : vx_Back l R p e below s args y 3 8 (PreOf R mc ms Pc) (PostOf Qc mc ms free) (vx_Post XC mc ms free) := vx_backW (hh := hh) (bytes := bytes) (maxL := maxL) (ret := ret) hM hp.1 hrc hrs hfr hlo hws hcw (fun a' U hW => word_at hW (Or.inl (by first | rfl | simp [Cond.onTables, Cond.keeps, Cond.steady])) hini)
  obtain ⟨hx, hb, hml, ho, -⟩ := S
  intro T hT X
  rcases vx_callSX X hx (hh := hh) (bytes := bytes) (maxL := maxL) (ret := ret) ho hl hstt hini hcode hy hK hg (hsize.trans hml.symm) (argsL := As) (rest := rest) (fun sig h => hn.trans (hlen sig h)) hstack hW (by rw [hb]; exact hdg)
    (fun vm₁ hW₁ => ⟨hf.1, hf.2, hp.2 (T.setVm vm₁) hT hW₁⟩) with ⟨v, vm₁, ⟨U', l2, c2, s2⟩, hW₁, X', ⟨g', mk, t, L, e1, e2, hq, h1, hL, h2, h3⟩, st⟩ | ⟨q, vm₁, ⟨U', l2, c2, s2⟩, hW₁, X', ⟨g', mk, t, L, E, ce, e1, e2, hq, hce, hcv, hcl, h1, hL, h2, h3⟩, st⟩
  · dsimp only [Pt.U, Pt.locs, Pt.cells, Pt.slots] at X' e1 e2 h1 h2 h3 st
    subst h1; subst h2; subst h3
    exact Or.inl ⟨v, (T.setVm vm₁).calling g' mk As.toArray, t, U', L, hT, X', hL, e1, e2, hq, st⟩
  · dsimp only [Pt.U, Pt.locs, Pt.cells, Pt.slots] at X' e1 e2 h1 h2 h3 st hcl
    subst h1; subst h2; subst h3
    exact Or.inr ⟨q, (T.setVm vm₁).calling g' mk As.toArray, t, U', L, E, ce, hT, X', hL, e1, e2, hq, hce, hcv, vx_cls hW₁ hcl, st⟩
end
end VXH
theorem vx_ofWH {l : Launch} {y : MethodName} {ws ws' : List Cond} {rm : Room} {Pc : Array Value → State → Prop} {Qc : Array Value → State → Outcome → State → Prop} {XC : String → State → State → Prop} {mc ms : Nat} {free : Addr → Prop} {cc : ByteArray} {maxL : Nat} {ret : Option FieldType} {hh : List (Nat × Nat × Nat × Nat)}
    (hy : plainName y.cls = true) (hw : ws = Cond.codeWith y cc maxL ret hh :: ws')
    (body : ∀ p e s m args below meth c s₁, BodyLoose p l y (headSpec ws rm) cc maxL ret e s m args below meth c s₁ → c.maxLocals = maxL → Pc args s →
      W p l e (headSpec ws rm).room s m args below meth c s.heap [] 0 0 (vx_MQ below Qc XC args s mc ms free) (entryFrame m args maxL)) : vx_Met l y ws rm Pc Qc XC mc ms free := by
  refine MetFree.of_bodyS (code := cc) (maxLocals := maxL) (ret := ret) hy ?_ ?_
  · intro args s m h hn
    obtain ⟨m9, meth, c, hn9, h1, h2, h3, h4, -, h5, h6, -⟩ := Cond.codeWith_spec (atoms_spec (ws := ws) h _ (by rw [hw]; exact List.mem_cons_self))
    cases hn.symm.trans hn9
    exact ⟨meth, c, h1, h2, h3, h4, h5, h6⟩
  · intro p e s m args below meth c s₁ B hml hP _
    have hh0 : s₁.heap = s.heap := by rw [B.state]; rfl
    obtain ⟨t, a1, o, b1, b2, b3⟩ := body p e s m args below meth c s₁ B hml hP s₁ hh0 (Stand.of_body B)
    exact ⟨t, o, a1, b1, b2, b3⟩
/-! ===== END ===== -/
end
section
/-! ===== BEGIN printed: names, fields, word lists, decode rows ===== -/
def RX0 : String := "LampLine$Echo"
def TX0 : u_T := fun k => match k with
  | _ => ("", "", "", false)
def tyX0 : Nat → FieldType := fun k => match k with
  | _ => .int
abbrev wsX00 : List Cond := u_ws RX0 TX0 0
theorem nmX0 : ∀ a, a < 0 → ∀ b, b < 0 → a ≠ b → (TX0 a).2.1 ≠ (TX0 b).2.1 := by decide +kernel
theorem tyX0_ok : ∀ k, k < 0 → parseFieldDescriptor (TX0 k).2.2.1 = some (tyX0 k) := by decide +kernel
abbrev cX0_write : ByteArray := prog_2_method_2_code
def yX0_write : MethodName := ⟨RX0, "write", "(JLLampLine$Row;)V"⟩
abbrev cX0_read : ByteArray := prog_2_method_3_code
def yX0_read : MethodName := ⟨RX0, "read", "(LLampLine$Row;)J"⟩
def RX1 : String := "LampLine$Lamp"
def TX1 : u_T := fun k => match k with
  | 0 => ("LampLine$Lamp", "id", "J", true)
  | 1 => ("LampLine$Lamp", "width", "I", true)
  | 2 => ("LampLine$Lamp", "modes", "I", true)
  | 3 => ("LampLine$Lamp", "levels", "[I", true)
  | 4 => ("LampLine$Lamp", "text", "LLampLine$Row;", true)
  | 5 => ("LampLine$Lamp", "laterTexts", "[LLampLine$Row;", true)
  | 6 => ("LampLine$Lamp", "isLater", "[Z", true)
  | 7 => ("LampLine$Lamp", "onTheWay", "I", false)
  | 8 => ("LampLine$Lamp", "waiting", "I", false)
  | 9 => ("LampLine$Lamp", "mode", "I", false)
  | 10 => ("LampLine$Lamp", "address", "I", false)
  | 11 => ("LampLine$Lamp", "silent", "Z", false)
  | 12 => ("LampLine$Lamp", "shows", "Z", false)
  | 13 => ("LampLine$Lamp", "orders", "I", false)
  | _ => ("LampLine$Lamp", "litAt", "I", false)
def tyX1 : Nat → FieldType := fun k => match k with
  | 0 => .long
  | 1 => .int
  | 2 => .int
  | 3 => .array .int
  | 4 => .object "LampLine$Row"
  | 5 => .array (.object "LampLine$Row")
  | 6 => .array .boolean
  | 7 => .int
  | 8 => .int
  | 9 => .int
  | 10 => .int
  | 11 => .boolean
  | 12 => .boolean
  | 13 => .int
  | _ => .int
abbrev wsX10 : List Cond := u_ws RX1 TX1 15
theorem nmX1 : ∀ a, a < 15 → ∀ b, b < 15 → a ≠ b → (TX1 a).2.1 ≠ (TX1 b).2.1 := by decide +kernel
theorem tyX1_ok : ∀ k, k < 15 → parseFieldDescriptor (TX1 k).2.2.1 = some (tyX1 k) := by decide +kernel
abbrev cX1_init : ByteArray := prog_3_method_1_code
def yX1_init : MethodName := ⟨RX1, "<init>", "(JIII)V"⟩
abbrev cX1_footprint : ByteArray := prog_3_method_2_code
def yX1_footprint : MethodName := ⟨RX1, "footprint", "()I"⟩
abbrev cX1_levelAt : ByteArray := prog_3_method_3_code
def yX1_levelAt : MethodName := ⟨RX1, "levelAt", "(I)I"⟩
abbrev cX1_isDark : ByteArray := prog_3_method_4_code
def yX1_isDark : MethodName := ⟨RX1, "isDark", "(I)Z"⟩
abbrev cX1_fact : ByteArray := prog_3_method_5_code
def yX1_fact : MethodName := ⟨RX1, "fact", "(II)I"⟩
abbrev cX1_ripen : ByteArray := prog_3_method_6_code
def yX1_ripen : MethodName := ⟨RX1, "ripen", "(I)V"⟩
abbrev cX1_shine : ByteArray := prog_3_method_7_code
def yX1_shine : MethodName := ⟨RX1, "shine", "(LLampLine$Row;I)V"⟩
abbrev cX1_isMeantBy : ByteArray := prog_3_method_8_code
def yX1_isMeantBy : MethodName := ⟨RX1, "isMeantBy", "(J)Z"⟩
abbrev cX1_speaksTo : ByteArray := prog_3_method_9_code
def yX1_speaksTo : MethodName := ⟨RX1, "speaksTo", "(LLampLine$Packet;LLampLine$Packet;LLampLine$Row;I)Z"⟩
abbrev cX1_speaksToSearch : ByteArray := prog_3_method_10_code
def yX1_speaksToSearch : MethodName := ⟨RX1, "speaksToSearch", "(LLampLine$Packet;LLampLine$Packet;LLampLine$Row;)Z"⟩
abbrev cX1_speaksToOrder : ByteArray := prog_3_method_11_code
def yX1_speaksToOrder : MethodName := ⟨RX1, "speaksToOrder", "(LLampLine$Packet;LLampLine$Packet;LLampLine$Row;I)Z"⟩
abbrev cX1_formRefusal : ByteArray := prog_3_method_12_code
def yX1_formRefusal : MethodName := ⟨RX1, "formRefusal", "(IIZI)I"⟩
abbrev cX1_isKnown : ByteArray := prog_3_method_13_code
def yX1_isKnown : MethodName := ⟨RX1, "isKnown", "(I)Z"⟩
abbrev cX1_valueRefusal : ByteArray := prog_3_method_14_code
def yX1_valueRefusal : MethodName := ⟨RX1, "valueRefusal", "(LLampLine$Packet;Z)I"⟩
abbrev cX1_obey : ByteArray := prog_3_method_15_code
def yX1_obey : MethodName := ⟨RX1, "obey", "(LLampLine$Packet;LLampLine$Packet;ZI)V"⟩
abbrev cX1_tell : ByteArray := prog_3_method_16_code
def yX1_tell : MethodName := ⟨RX1, "tell", "(ILLampLine$Packet;)V"⟩
def RX2 : String := "LampLine$Packet"
def TX2 : u_T := fun k => match k with
  | 0 => ("LampLine$Packet", "to", "J", false)
  | 1 => ("LampLine$Packet", "from", "J", false)
  | 2 => ("LampLine$Packet", "count", "I", false)
  | 3 => ("LampLine$Packet", "kind", "I", false)
  | 4 => ("LampLine$Packet", "messages", "I", false)
  | 5 => ("LampLine$Packet", "part", "I", false)
  | 6 => ("LampLine$Packet", "group", "I", false)
  | 7 => ("LampLine$Packet", "matter", "I", false)
  | _ => ("LampLine$Packet", "data", "LLampLine$Row;", true)
def tyX2 : Nat → FieldType := fun k => match k with
  | 0 => .long
  | 1 => .long
  | 2 => .int
  | 3 => .int
  | 4 => .int
  | 5 => .int
  | 6 => .int
  | 7 => .int
  | _ => .object "LampLine$Row"
abbrev wsX20 : List Cond := u_ws RX2 TX2 9
theorem nmX2 : ∀ a, a < 9 → ∀ b, b < 9 → a ≠ b → (TX2 a).2.1 ≠ (TX2 b).2.1 := by decide +kernel
theorem tyX2_ok : ∀ k, k < 9 → parseFieldDescriptor (TX2 k).2.2.1 = some (tyX2 k) := by decide +kernel
abbrev cX2_init : ByteArray := prog_4_method_1_code
def yX2_init : MethodName := ⟨RX2, "<init>", "()V"⟩
abbrev cX2_isCall : ByteArray := prog_4_method_2_code
def yX2_isCall : MethodName := ⟨RX2, "isCall", "()Z"⟩
abbrev cX2_readFrom : ByteArray := prog_4_method_3_code
def yX2_readFrom : MethodName := ⟨RX2, "readFrom", "(LLampLine$Row;)Z"⟩
abbrev cX2_writeTo : ByteArray := prog_4_method_4_code
def yX2_writeTo : MethodName := ⟨RX2, "writeTo", "(LLampLine$Row;)V"⟩
abbrev cX2_beginReply : ByteArray := prog_4_method_5_code
def yX2_beginReply : MethodName := ⟨RX2, "beginReply", "(LLampLine$Packet;J)V"⟩
abbrev cX2_refuse : ByteArray := prog_4_method_6_code
def yX2_refuse : MethodName := ⟨RX2, "refuse", "(I)V"⟩
def RX3 : String := "LampLine$Row"
def TX3 : u_T := fun k => match k with
  | 0 => ("LampLine$Row", "cells", "[I", true)
  | _ => ("LampLine$Row", "size", "I", false)
def tyX3 : Nat → FieldType := fun k => match k with
  | 0 => .array .int
  | _ => .int
abbrev wsX30 : List Cond := u_ws RX3 TX3 2
theorem nmX3 : ∀ a, a < 2 → ∀ b, b < 2 → a ≠ b → (TX3 a).2.1 ≠ (TX3 b).2.1 := by decide +kernel
theorem tyX3_ok : ∀ k, k < 2 → parseFieldDescriptor (TX3 k).2.2.1 = some (tyX3 k) := by decide +kernel
abbrev cX3_init : ByteArray := prog_5_method_1_code
def yX3_init : MethodName := ⟨RX3, "<init>", "(I)V"⟩
abbrev cX3_size : ByteArray := prog_5_method_2_code
def yX3_size : MethodName := ⟨RX3, "size", "()I"⟩
abbrev cX3_at : ByteArray := prog_5_method_3_code
def yX3_at : MethodName := ⟨RX3, "at", "(I)I"⟩
abbrev cX3_number : ByteArray := prog_5_method_4_code
def yX3_number : MethodName := ⟨RX3, "number", "(II)J"⟩
abbrev cX3_sum : ByteArray := prog_5_method_5_code
def yX3_sum : MethodName := ⟨RX3, "sum", "(II)I"⟩
abbrev cX3_cut : ByteArray := prog_5_method_6_code
def yX3_cut : MethodName := ⟨RX3, "cut", "(I)V"⟩
abbrev cX3_put : ByteArray := prog_5_method_7_code
def yX3_put : MethodName := ⟨RX3, "put", "(I)V"⟩
abbrev cX3_putNumber : ByteArray := prog_5_method_8_code
def yX3_putNumber : MethodName := ⟨RX3, "putNumber", "(JI)V"⟩
abbrev cX3_copyFrom : ByteArray := prog_5_method_9_code
def yX3_copyFrom : MethodName := ⟨RX3, "copyFrom", "(LLampLine$Row;)V"⟩
abbrev cX3_join : ByteArray := prog_5_method_10_code
def yX3_join : MethodName := ⟨RX3, "join", "(LLampLine$Row;)V"⟩
abbrev cX3_flip : ByteArray := prog_5_method_11_code
def yX3_flip : MethodName := ⟨RX3, "flip", "(II)V"⟩
def RX4 : String := "LampLine$Search"
def TX4 : u_T := fun k => match k with
  | 0 => ("LampLine$Search", "lows", "[J", true)
  | 1 => ("LampLine$Search", "highs", "[J", true)
  | 2 => ("LampLine$Search", "foundIds", "[J", true)
  | 3 => ("LampLine$Search", "begun", "Z", false)
  | 4 => ("LampLine$Search", "depth", "I", false)
  | 5 => ("LampLine$Search", "foundCount", "I", false)
  | _ => ("LampLine$Search", "steps", "I", false)
def tyX4 : Nat → FieldType := fun k => match k with
  | 0 => .array .long
  | 1 => .array .long
  | 2 => .array .long
  | 3 => .boolean
  | 4 => .int
  | 5 => .int
  | _ => .int
abbrev wsX40 : List Cond := u_ws RX4 TX4 7
theorem nmX4 : ∀ a, a < 7 → ∀ b, b < 7 → a ≠ b → (TX4 a).2.1 ≠ (TX4 b).2.1 := by decide +kernel
theorem tyX4_ok : ∀ k, k < 7 → parseFieldDescriptor (TX4 k).2.2.1 = some (tyX4 k) := by decide +kernel
abbrev cX4_init : ByteArray := prog_6_method_1_code
def yX4_init : MethodName := ⟨RX4, "<init>", "()V"⟩
abbrev cX4_begin : ByteArray := prog_6_method_2_code
def yX4_begin : MethodName := ⟨RX4, "begin", "()V"⟩
abbrev cX4_latestLow : ByteArray := prog_6_method_3_code
def yX4_latestLow : MethodName := ⟨RX4, "latestLow", "()J"⟩
abbrev cX4_latestHigh : ByteArray := prog_6_method_4_code
def yX4_latestHigh : MethodName := ⟨RX4, "latestHigh", "()J"⟩
abbrev cX4_takeLatest : ByteArray := prog_6_method_5_code
def yX4_takeLatest : MethodName := ⟨RX4, "takeLatest", "()V"⟩
abbrev cX4_pile : ByteArray := prog_6_method_6_code
def yX4_pile : MethodName := ⟨RX4, "pile", "(JJ)V"⟩
abbrev cX4_hasFound : ByteArray := prog_6_method_7_code
def yX4_hasFound : MethodName := ⟨RX4, "hasFound", "(J)Z"⟩
abbrev cX4_keepFound : ByteArray := prog_6_method_8_code
def yX4_keepFound : MethodName := ⟨RX4, "keepFound", "(J)V"⟩
def RX5 : String := "LampLine$Spoils"
def TX5 : u_T := fun k => match k with
  | 0 => ("LampLine$Spoils", "places", "[I", true)
  | 1 => ("LampLine$Spoils", "masks", "[I", true)
  | _ => ("LampLine$Spoils", "size", "I", false)
def tyX5 : Nat → FieldType := fun k => match k with
  | 0 => .array .int
  | 1 => .array .int
  | _ => .int
abbrev wsX50 : List Cond := u_ws RX5 TX5 3
theorem nmX5 : ∀ a, a < 3 → ∀ b, b < 3 → a ≠ b → (TX5 a).2.1 ≠ (TX5 b).2.1 := by decide +kernel
theorem tyX5_ok : ∀ k, k < 3 → parseFieldDescriptor (TX5 k).2.2.1 = some (tyX5 k) := by decide +kernel
abbrev cX5_init : ByteArray := prog_7_method_1_code
def yX5_init : MethodName := ⟨RX5, "<init>", "()V"⟩
abbrev cX5_add : ByteArray := prog_7_method_2_code
def yX5_add : MethodName := ⟨RX5, "add", "(II)V"⟩
abbrev cX5_dropFirst : ByteArray := prog_7_method_3_code
def yX5_dropFirst : MethodName := ⟨RX5, "dropFirst", "()V"⟩
abbrev cX5_applyTo : ByteArray := prog_7_method_4_code
def yX5_applyTo : MethodName := ⟨RX5, "applyTo", "(LLampLine$Row;)V"⟩
def RX6 : String := "LampLine"
def TX6 : u_T := fun k => match k with
  | 0 => ("LampLine", "tape", "LLampLine$Row;", true)
  | 1 => ("LampLine", "frame", "LLampLine$Row;", true)
  | 2 => ("LampLine", "voice", "LLampLine$Row;", true)
  | 3 => ("LampLine", "heardAnswer", "LLampLine$Row;", true)
  | 4 => ("LampLine", "question", "LLampLine$Packet;", true)
  | 5 => ("LampLine", "heard", "LLampLine$Packet;", true)
  | 6 => ("LampLine", "reply", "LLampLine$Packet;", true)
  | 7 => ("LampLine", "spoils", "LLampLine$Spoils;", true)
  | 8 => ("LampLine", "hunt", "LLampLine$Search;", true)
  | 9 => ("LampLine", "lamps", "[LLampLine$Lamp;", true)
  | 10 => ("LampLine", "lampCount", "I", false)
  | 11 => ("LampLine", "frameCount", "I", false)
  | _ => ("LampLine", "questionCount", "I", false)
def tyX6 : Nat → FieldType := fun k => match k with
  | 0 => .object "LampLine$Row"
  | 1 => .object "LampLine$Row"
  | 2 => .object "LampLine$Row"
  | 3 => .object "LampLine$Row"
  | 4 => .object "LampLine$Packet"
  | 5 => .object "LampLine$Packet"
  | 6 => .object "LampLine$Packet"
  | 7 => .object "LampLine$Spoils"
  | 8 => .object "LampLine$Search"
  | 9 => .array (.object "LampLine$Lamp")
  | 10 => .int
  | 11 => .int
  | _ => .int
abbrev wsX60 : List Cond := u_ws RX6 TX6 13
theorem nmX6 : ∀ a, a < 13 → ∀ b, b < 13 → a ≠ b → (TX6 a).2.1 ≠ (TX6 b).2.1 := by decide +kernel
theorem tyX6_ok : ∀ k, k < 13 → parseFieldDescriptor (TX6 k).2.2.1 = some (tyX6 k) := by decide +kernel
abbrev cX6_init : ByteArray := prog_1_method_1_code
def yX6_init : MethodName := ⟨RX6, "<init>", "()V"⟩
abbrev cX6_lamp : ByteArray := prog_1_method_2_code
def yX6_lamp : MethodName := ⟨RX6, "lamp", "(IJIII)I"⟩
abbrev cX6_feed : ByteArray := prog_1_method_3_code
def yX6_feed : MethodName := ⟨RX6, "feed", "(IIIII)I"⟩
abbrev cX6_end : ByteArray := prog_1_method_4_code
def yX6_end : MethodName := ⟨RX6, "end", "(I)V"⟩
abbrev cX6_send : ByteArray := prog_1_method_5_code
def yX6_send : MethodName := ⟨RX6, "send", "()I"⟩
abbrev cX6_answer : ByteArray := prog_1_method_6_code
def yX6_answer : MethodName := ⟨RX6, "answer", "(I)I"⟩
abbrev cX6_ask : ByteArray := prog_1_method_7_code
def yX6_ask : MethodName := ⟨RX6, "ask", "(IJIII)I"⟩
abbrev cX6_spoil : ByteArray := prog_1_method_8_code
def yX6_spoil : MethodName := ⟨RX6, "spoil", "(II)V"⟩
abbrev cX6_frames : ByteArray := prog_1_method_9_code
def yX6_frames : MethodName := ⟨RX6, "frames", "()I"⟩
abbrev cX6_about : ByteArray := prog_1_method_10_code
def yX6_about : MethodName := ⟨RX6, "about", "(II)I"⟩
abbrev cX6_rest : ByteArray := prog_1_method_11_code
def yX6_rest : MethodName := ⟨RX6, "rest", "(I)J"⟩
abbrev cX6_level : ByteArray := prog_1_method_12_code
def yX6_level : MethodName := ⟨RX6, "level", "(II)I"⟩
abbrev cX6_label : ByteArray := prog_1_method_13_code
def yX6_label : MethodName := ⟨RX6, "label", "(II)I"⟩
abbrev cX6_silence : ByteArray := prog_1_method_14_code
def yX6_silence : MethodName := ⟨RX6, "silence", "(IZ)I"⟩
abbrev cX6_search : ByteArray := prog_1_method_15_code
def yX6_search : MethodName := ⟨RX6, "search", "()I"⟩
abbrev cX6_step : ByteArray := prog_1_method_16_code
def yX6_step : MethodName := ⟨RX6, "step", "(I)I"⟩
abbrev cX6_found : ByteArray := prog_1_method_17_code
def yX6_found : MethodName := ⟨RX6, "found", "()I"⟩
abbrev cX6_id : ByteArray := prog_1_method_18_code
def yX6_id : MethodName := ⟨RX6, "id", "(I)J"⟩
abbrev cX6_branch : ByteArray := prog_1_method_19_code
def yX6_branch : MethodName := ⟨RX6, "branch", "(I)J"⟩
abbrev cX6_joinedId : ByteArray := prog_1_method_20_code
def yX6_joinedId : MethodName := ⟨RX6, "joinedId", "(IJ)J"⟩
abbrev cX6_makerOf : ByteArray := prog_1_method_21_code
def yX6_makerOf : MethodName := ⟨RX6, "makerOf", "(J)I"⟩
abbrev cX6_restOf : ByteArray := prog_1_method_22_code
def yX6_restOf : MethodName := ⟨RX6, "restOf", "(J)J"⟩
abbrev cX6_flag : ByteArray := prog_1_method_23_code
def yX6_flag : MethodName := ⟨RX6, "flag", "(Z)I"⟩
abbrev cX6_fits : ByteArray := prog_1_method_24_code
def yX6_fits : MethodName := ⟨RX6, "fits", "(II)Z"⟩
abbrev cX6_isThere : ByteArray := prog_1_method_25_code
def yX6_isThere : MethodName := ⟨RX6, "isThere", "(J)Z"⟩
abbrev cX6_lampAt : ByteArray := prog_1_method_26_code
def yX6_lampAt : MethodName := ⟨RX6, "lampAt", "(I)LLampLine$Lamp;"⟩
abbrev cX6_runFrame : ByteArray := prog_1_method_27_code
def yX6_runFrame : MethodName := ⟨RX6, "runFrame", "()V"⟩
abbrev cX6_beginQuestion : ByteArray := prog_1_method_28_code
def yX6_beginQuestion : MethodName := ⟨RX6, "beginQuestion", "(JII)V"⟩
abbrev cX6_writeSearch : ByteArray := prog_1_method_29_code
def yX6_writeSearch : MethodName := ⟨RX6, "writeSearch", "(JI)V"⟩
abbrev cX6_writeBranchSearch : ByteArray := prog_1_method_30_code
def yX6_writeBranchSearch : MethodName := ⟨RX6, "writeBranchSearch", "(JJ)V"⟩
abbrev cX6_isReplyFrom : ByteArray := prog_1_method_31_code
def yX6_isReplyFrom : MethodName := ⟨RX6, "isReplyFrom", "(J)Z"⟩
abbrev cX6_takeStep : ByteArray := prog_1_method_32_code
def yX6_takeStep : MethodName := ⟨RX6, "takeStep", "()V"⟩
abbrev cX6_tryId : ByteArray := prog_1_method_33_code
def yX6_tryId : MethodName := ⟨RX6, "tryId", "(J)I"⟩
def RX7 : String := "LampLineModel"
def TX7 : u_T := fun k => match k with
  | 0 => ("LampLineModel", "thrown", "I", false)
  | 1 => ("LampLineModel", "lamps", "I", false)
  | 2 => ("LampLineModel", "maker", "[I", true)
  | 3 => ("LampLineModel", "rest", "[J", true)
  | 4 => ("LampLineModel", "width", "[I", true)
  | 5 => ("LampLineModel", "modes", "[I", true)
  | 6 => ("LampLineModel", "mode", "[I", true)
  | 7 => ("LampLineModel", "address", "[I", true)
  | 8 => ("LampLineModel", "silent", "[Z", true)
  | 9 => ("LampLineModel", "shows", "[Z", true)
  | 10 => ("LampLineModel", "labelSize", "[I", true)
  | 11 => ("LampLineModel", "label", "[B", true)
  | 12 => ("LampLineModel", "asked", "[I", true)
  | 13 => ("LampLineModel", "levels", "[I", true)
  | 14 => ("LampLineModel", "lit", "[I", true)
  | 15 => ("LampLineModel", "laters", "[I", true)
  | 16 => ("LampLineModel", "due", "[I", true)
  | 17 => ("LampLineModel", "laterSize", "[I", true)
  | 18 => ("LampLineModel", "laterBytes", "[B", true)
  | 19 => ("LampLineModel", "tape", "[B", true)
  | 20 => ("LampLineModel", "taped", "I", false)
  | 21 => ("LampLineModel", "frames", "I", false)
  | 22 => ("LampLineModel", "frame", "[B", true)
  | 23 => ("LampLineModel", "frameSize", "I", false)
  | 24 => ("LampLineModel", "answer", "[B", true)
  | 25 => ("LampLineModel", "answered", "I", false)
  | 26 => ("LampLineModel", "reply", "[B", true)
  | 27 => ("LampLineModel", "replySize", "I", false)
  | 28 => ("LampLineModel", "spoils", "I", false)
  | 29 => ("LampLineModel", "spoilAt", "[I", true)
  | 30 => ("LampLineModel", "spoilMask", "[I", true)
  | 31 => ("LampLineModel", "counted", "I", false)
  | 32 => ("LampLineModel", "searching", "Z", false)
  | 33 => ("LampLineModel", "steps", "I", false)
  | 34 => ("LampLineModel", "branches", "I", false)
  | 35 => ("LampLineModel", "low", "[J", true)
  | 36 => ("LampLineModel", "high", "[J", true)
  | 37 => ("LampLineModel", "found", "I", false)
  | _ => ("LampLineModel", "foundId", "[J", true)
def tyX7 : Nat → FieldType := fun k => match k with
  | 0 => .int
  | 1 => .int
  | 2 => .array .int
  | 3 => .array .long
  | 4 => .array .int
  | 5 => .array .int
  | 6 => .array .int
  | 7 => .array .int
  | 8 => .array .boolean
  | 9 => .array .boolean
  | 10 => .array .int
  | 11 => .array .byte
  | 12 => .array .int
  | 13 => .array .int
  | 14 => .array .int
  | 15 => .array .int
  | 16 => .array .int
  | 17 => .array .int
  | 18 => .array .byte
  | 19 => .array .byte
  | 20 => .int
  | 21 => .int
  | 22 => .array .byte
  | 23 => .int
  | 24 => .array .byte
  | 25 => .int
  | 26 => .array .byte
  | 27 => .int
  | 28 => .int
  | 29 => .array .int
  | 30 => .array .int
  | 31 => .int
  | 32 => .boolean
  | 33 => .int
  | 34 => .int
  | 35 => .array .long
  | 36 => .array .long
  | 37 => .int
  | _ => .array .long
abbrev wsX70 : List Cond := u_ws RX7 TX7 39
theorem nmX7 : ∀ a, a < 39 → ∀ b, b < 39 → a ≠ b → (TX7 a).2.1 ≠ (TX7 b).2.1 := by decide +kernel
theorem tyX7_ok : ∀ k, k < 39 → parseFieldDescriptor (TX7 k).2.2.1 = some (tyX7 k) := by decide +kernel
abbrev cX7_init : ByteArray := prog_9_method_1_code
def yX7_init : MethodName := ⟨RX7, "<init>", "()V"⟩
abbrev cX7_thrown : ByteArray := prog_9_method_2_code
def yX7_thrown : MethodName := ⟨RX7, "thrown", "()I"⟩
abbrev cX7_in : ByteArray := prog_9_method_3_code
def yX7_in : MethodName := ⟨RX7, "in", "(JJJ)Z"⟩
abbrev cX7_goes : ByteArray := prog_9_method_4_code
def yX7_goes : MethodName := ⟨RX7, "goes", "(Z)Z"⟩
abbrev cX7_idOf : ByteArray := prog_9_method_5_code
def yX7_idOf : MethodName := ⟨RX7, "idOf", "(IJ)J"⟩
abbrev cX7_ownId : ByteArray := prog_9_method_6_code
def yX7_ownId : MethodName := ⟨RX7, "ownId", "(I)J"⟩
abbrev cX7_lamp : ByteArray := prog_9_method_7_code
def yX7_lamp : MethodName := ⟨RX7, "lamp", "(IJIII)I"⟩
abbrev cX7_feed : ByteArray := prog_9_method_8_code
def yX7_feed : MethodName := ⟨RX7, "feed", "(IIIII)I"⟩
abbrev cX7_end : ByteArray := prog_9_method_9_code
def yX7_end : MethodName := ⟨RX7, "end", "(I)V"⟩
abbrev cX7_at : ByteArray := prog_9_method_10_code
def yX7_at : MethodName := ⟨RX7, "at", "(I)I"⟩
abbrev cX7_two : ByteArray := prog_9_method_11_code
def yX7_two : MethodName := ⟨RX7, "two", "(I)I"⟩
abbrev cX7_six : ByteArray := prog_9_method_12_code
def yX7_six : MethodName := ⟨RX7, "six", "(I)J"⟩
abbrev cX7_footprint : ByteArray := prog_9_method_13_code
def yX7_footprint : MethodName := ⟨RX7, "footprint", "(I)I"⟩
abbrev cX7_doDue : ByteArray := prog_9_method_14_code
def yX7_doDue : MethodName := ⟨RX7, "doDue", "()V"⟩
abbrev cX7_waiting : ByteArray := prog_9_method_15_code
def yX7_waiting : MethodName := ⟨RX7, "waiting", "(I)I"⟩
abbrev cX7_look : ByteArray := prog_9_method_16_code
def yX7_look : MethodName := ⟨RX7, "look", "()V"⟩
abbrev cX7_takeLevels : ByteArray := prog_9_method_17_code
def yX7_takeLevels : MethodName := ⟨RX7, "takeLevels", "(I)V"⟩
abbrev cX7_isPacket : ByteArray := prog_9_method_18_code
def yX7_isPacket : MethodName := ⟨RX7, "isPacket", "()Z"⟩
abbrev cX7_fall : ByteArray := prog_9_method_19_code
def yX7_fall : MethodName := ⟨RX7, "fall", "()V"⟩
abbrev cX7_put : ByteArray := prog_9_method_20_code
def yX7_put : MethodName := ⟨RX7, "put", "(I)V"⟩
abbrev cX7_putTwo : ByteArray := prog_9_method_21_code
def yX7_putTwo : MethodName := ⟨RX7, "putTwo", "(I)V"⟩
abbrev cX7_putId : ByteArray := prog_9_method_22_code
def yX7_putId : MethodName := ⟨RX7, "putId", "(J)V"⟩
abbrev cX7_begin : ByteArray := prog_9_method_23_code
def yX7_begin : MethodName := ⟨RX7, "begin", "(IIII)V"⟩
abbrev cX7_finish : ByteArray := prog_9_method_24_code
def yX7_finish : MethodName := ⟨RX7, "finish", "(I)V"⟩
abbrev cX7_hear : ByteArray := prog_9_method_25_code
def yX7_hear : MethodName := ⟨RX7, "hear", "(IZ)V"⟩
abbrev cX7_hearSearch : ByteArray := prog_9_method_26_code
def yX7_hearSearch : MethodName := ⟨RX7, "hearSearch", "(IZ)V"⟩
abbrev cX7_show : ByteArray := prog_9_method_27_code
def yX7_show : MethodName := ⟨RX7, "show", "(J)V"⟩
abbrev cX7_refuse : ByteArray := prog_9_method_28_code
def yX7_refuse : MethodName := ⟨RX7, "refuse", "(IZI)V"⟩
abbrev cX7_isMatter : ByteArray := prog_9_method_29_code
def yX7_isMatter : MethodName := ⟨RX7, "isMatter", "(I)Z"⟩
abbrev cX7_get : ByteArray := prog_9_method_30_code
def yX7_get : MethodName := ⟨RX7, "get", "(I)V"⟩
abbrev cX7_tell : ByteArray := prog_9_method_31_code
def yX7_tell : MethodName := ⟨RX7, "tell", "(II)V"⟩
abbrev cX7_getWaiting : ByteArray := prog_9_method_32_code
def yX7_getWaiting : MethodName := ⟨RX7, "getWaiting", "(I)V"⟩
abbrev cX7_set : ByteArray := prog_9_method_33_code
def yX7_set : MethodName := ⟨RX7, "set", "(IZ)V"⟩
abbrev cX7_mayBe : ByteArray := prog_9_method_34_code
def yX7_mayBe : MethodName := ⟨RX7, "mayBe", "(III)Z"⟩
abbrev cX7_setLabel : ByteArray := prog_9_method_35_code
def yX7_setLabel : MethodName := ⟨RX7, "setLabel", "(IZI)V"⟩
abbrev cX7_send : ByteArray := prog_9_method_36_code
def yX7_send : MethodName := ⟨RX7, "send", "()I"⟩
abbrev cX7_answer : ByteArray := prog_9_method_37_code
def yX7_answer : MethodName := ⟨RX7, "answer", "(I)I"⟩
abbrev cX7_write : ByteArray := prog_9_method_38_code
def yX7_write : MethodName := ⟨RX7, "write", "(I)V"⟩
abbrev cX7_writeSix : ByteArray := prog_9_method_39_code
def yX7_writeSix : MethodName := ⟨RX7, "writeSix", "(J)V"⟩
abbrev cX7_beginPacket : ByteArray := prog_9_method_40_code
def yX7_beginPacket : MethodName := ⟨RX7, "beginPacket", "(JIII)V"⟩
abbrev cX7_sendOff : ByteArray := prog_9_method_41_code
def yX7_sendOff : MethodName := ⟨RX7, "sendOff", "()V"⟩
abbrev cX7_heard : ByteArray := prog_9_method_42_code
def yX7_heard : MethodName := ⟨RX7, "heard", "(I)I"⟩
abbrev cX7_heardSix : ByteArray := prog_9_method_43_code
def yX7_heardSix : MethodName := ⟨RX7, "heardSix", "(I)J"⟩
abbrev cX7_isReply : ByteArray := prog_9_method_44_code
def yX7_isReply : MethodName := ⟨RX7, "isReply", "(J)Z"⟩
abbrev cX7_ask : ByteArray := prog_9_method_45_code
def yX7_ask : MethodName := ⟨RX7, "ask", "(IJIII)I"⟩
abbrev cX7_spoil : ByteArray := prog_9_method_46_code
def yX7_spoil : MethodName := ⟨RX7, "spoil", "(II)V"⟩
abbrev cX7_frames : ByteArray := prog_9_method_47_code
def yX7_frames : MethodName := ⟨RX7, "frames", "()I"⟩
abbrev cX7_isLamp : ByteArray := prog_9_method_48_code
def yX7_isLamp : MethodName := ⟨RX7, "isLamp", "(I)Z"⟩
abbrev cX7_about : ByteArray := prog_9_method_49_code
def yX7_about : MethodName := ⟨RX7, "about", "(II)I"⟩
abbrev cX7_rest : ByteArray := prog_9_method_50_code
def yX7_rest : MethodName := ⟨RX7, "rest", "(I)J"⟩
abbrev cX7_level : ByteArray := prog_9_method_51_code
def yX7_level : MethodName := ⟨RX7, "level", "(II)I"⟩
abbrev cX7_label : ByteArray := prog_9_method_52_code
def yX7_label : MethodName := ⟨RX7, "label", "(II)I"⟩
abbrev cX7_silence : ByteArray := prog_9_method_53_code
def yX7_silence : MethodName := ⟨RX7, "silence", "(IZ)I"⟩
abbrev cX7_search : ByteArray := prog_9_method_54_code
def yX7_search : MethodName := ⟨RX7, "search", "()I"⟩
abbrev cX7_push : ByteArray := prog_9_method_55_code
def yX7_push : MethodName := ⟨RX7, "push", "(JJ)V"⟩
abbrev cX7_isFound : ByteArray := prog_9_method_56_code
def yX7_isFound : MethodName := ⟨RX7, "isFound", "(J)Z"⟩
abbrev cX7_tried : ByteArray := prog_9_method_57_code
def yX7_tried : MethodName := ⟨RX7, "tried", "(J)I"⟩
abbrev cX7_shown : ByteArray := prog_9_method_58_code
def yX7_shown : MethodName := ⟨RX7, "shown", "()J"⟩
abbrev cX7_isId : ByteArray := prog_9_method_59_code
def yX7_isId : MethodName := ⟨RX7, "isId", "(J)Z"⟩
abbrev cX7_stepOnce : ByteArray := prog_9_method_60_code
def yX7_stepOnce : MethodName := ⟨RX7, "stepOnce", "()V"⟩
abbrev cX7_step : ByteArray := prog_9_method_61_code
def yX7_step : MethodName := ⟨RX7, "step", "(I)I"⟩
abbrev cX7_found : ByteArray := prog_9_method_62_code
def yX7_found : MethodName := ⟨RX7, "found", "()I"⟩
abbrev cX7_id : ByteArray := prog_9_method_63_code
def yX7_id : MethodName := ⟨RX7, "id", "(I)J"⟩
abbrev cX7_branch : ByteArray := prog_9_method_64_code
def yX7_branch : MethodName := ⟨RX7, "branch", "(I)J"⟩
def RJ9 : String := "java/lang/Math"
def TJ9 : u_T := fun k => match k with
  | _ => ("", "", "", false)
def tyJ9 : Nat → FieldType := fun k => match k with
  | _ => .int
abbrev wsJ90 : List Cond := u_ws RJ9 TJ9 0
theorem nmJ9 : ∀ a, a < 0 → ∀ b, b < 0 → a ≠ b → (TJ9 a).2.1 ≠ (TJ9 b).2.1 := by decide +kernel
theorem tyJ9_ok : ∀ k, k < 0 → parseFieldDescriptor (TJ9 k).2.2.1 = some (tyJ9 k) := by decide +kernel
abbrev cJ9_min_7cf53 : ByteArray := prog_14_method_69_code
def yJ9_min_7cf53 : MethodName := ⟨RJ9, "min", "(II)I"⟩
def RJ0 : String := "java/lang/String"
def TJ0 : u_T := fun k => match k with
  | _ => ("", "", "", false)
def tyJ0 : Nat → FieldType := fun k => match k with
  | _ => .int
abbrev wsJ00 : List Cond := u_ws RJ0 TJ0 0
theorem nmJ0 : ∀ a, a < 0 → ∀ b, b < 0 → a ≠ b → (TJ0 a).2.1 ≠ (TJ0 b).2.1 := by decide +kernel
theorem tyJ0_ok : ∀ k, k < 0 → parseFieldDescriptor (TJ0 k).2.2.1 = some (tyJ0 k) := by decide +kernel
def RL : String := "LampLineLaw"
abbrev cL_lamp : ByteArray := method_3_code
def yL_lamp : MethodName := ⟨RL, "lamp", "(LLampLine;IJIII[J)I"⟩
abbrev cL_feed : ByteArray := method_4_code
def yL_feed : MethodName := ⟨RL, "feed", "(LLampLine;IIIII[J)I"⟩
abbrev cL_end : ByteArray := method_5_code
def yL_end : MethodName := ⟨RL, "end", "(LLampLine;I)I"⟩
abbrev cL_answer : ByteArray := method_6_code
def yL_answer : MethodName := ⟨RL, "answer", "(LLampLine;I[J)I"⟩
abbrev cL_ask : ByteArray := method_7_code
def yL_ask : MethodName := ⟨RL, "ask", "(LLampLine;IJIII[J)I"⟩
abbrev cL_spoil : ByteArray := method_8_code
def yL_spoil : MethodName := ⟨RL, "spoil", "(LLampLine;II)I"⟩
abbrev cL_about : ByteArray := method_9_code
def yL_about : MethodName := ⟨RL, "about", "(LLampLine;II[J)I"⟩
abbrev cL_rest : ByteArray := method_10_code
def yL_rest : MethodName := ⟨RL, "rest", "(LLampLine;I[J)I"⟩
abbrev cL_level : ByteArray := method_11_code
def yL_level : MethodName := ⟨RL, "level", "(LLampLine;II[J)I"⟩
abbrev cL_label : ByteArray := method_12_code
def yL_label : MethodName := ⟨RL, "label", "(LLampLine;II[J)I"⟩
abbrev cL_silence : ByteArray := method_13_code
def yL_silence : MethodName := ⟨RL, "silence", "(LLampLine;IZ[J)I"⟩
abbrev cL_step : ByteArray := method_14_code
def yL_step : MethodName := ⟨RL, "step", "(LLampLine;I[J)I"⟩
abbrev cL_id : ByteArray := method_15_code
def yL_id : MethodName := ⟨RL, "id", "(LLampLine;I[J)I"⟩
abbrev cL_branch : ByteArray := method_16_code
def yL_branch : MethodName := ⟨RL, "branch", "(LLampLine;I[J)I"⟩
abbrev cL_law : ByteArray := code
def yL_law : MethodName := ⟨RL, "law", "([I)Z"⟩
def wsX3_cut : List Cond := .code yX3_cut cX3_cut 2 none :: ([.fieldLink RX3 13 "LampLine$Row" "size" "I"] ++ wsX30)
def wsX3_put : List Cond := .code yX3_put cX3_put 2 none :: ([.fieldLink RX3 13 "LampLine$Row" "size" "I", .fieldLink RX3 7 "LampLine$Row" "cells" "[I"] ++ wsX30)
def wsX3_sum : List Cond := .code yX3_sum cX3_sum 5 (some .int) :: ([.fieldLink RX3 13 "LampLine$Row" "size" "I", .fieldLink RX3 7 "LampLine$Row" "cells" "[I", .constant RX3 21 (65535)] ++ wsX30)
def wsX0_write : List Cond := .code yX0_write cX0_write 5 none :: ([.methodLink RX0 9 yX3_cut, .instanceMethod yX3_cut, .selects RX3 yX3_cut yX3_cut, .initialized RX3, .code yX3_cut cX3_cut 2 none, .fieldLink RX3 13 "LampLine$Row" "size" "I", .methodLink RX0 17 yX3_put, .instanceMethod yX3_put, .selects RX3 yX3_put yX3_put, .code yX3_put cX3_put 2 none, .fieldLink RX3 7 "LampLine$Row" "cells" "[I", .methodLink RX0 20 yX3_sum, .instanceMethod yX3_sum, .selects RX3 yX3_sum yX3_sum, .code yX3_sum cX3_sum 5 (some .int), .constant RX3 21 (65535)] ++ wsX30)
def wsX3_size : List Cond := .code yX3_size cX3_size 1 (some .int) :: ([.fieldLink RX3 13 "LampLine$Row" "size" "I"] ++ wsX30)
def wsX3_at : List Cond := .code yX3_at cX3_at 2 (some .int) :: ([.fieldLink RX3 13 "LampLine$Row" "size" "I", .fieldLink RX3 7 "LampLine$Row" "cells" "[I"] ++ wsX30)
def wsX0_read : List Cond := .code yX0_read cX0_read 6 (some .long) :: ([.constantLong RX0 28 (-1), .constantLong RX0 34 (65535), .methodLink RX0 24 yX3_size, .instanceMethod yX3_size, .selects RX3 yX3_size yX3_size, .initialized RX3, .code yX3_size cX3_size 1 (some .int), .fieldLink RX3 13 "LampLine$Row" "size" "I", .methodLink RX0 30 yX3_at, .instanceMethod yX3_at, .selects RX3 yX3_at yX3_at, .code yX3_at cX3_at 2 (some .int), .fieldLink RX3 7 "LampLine$Row" "cells" "[I", .methodLink RX0 20 yX3_sum, .instanceMethod yX3_sum, .selects RX3 yX3_sum yX3_sum, .code yX3_sum cX3_sum 5 (some .int), .constant RX3 21 (65535)] ++ wsX30)
def wsX3_init : List Cond := .code yX3_init cX3_init 2 none :: ([.methodLink RX3 1 objectInit, .instanceMethod objectInit, .code objectInit ⟨#[0xb1]⟩ 1 none, .arrayClass .int, .fieldLink RX3 7 "LampLine$Row" "cells" "[I"] ++ wsX30)
def wsX1_init : List Cond := .code yX1_init cX1_init 7 none :: ([.methodLink RX1 3 objectInit, .instanceMethod objectInit, .code objectInit ⟨#[0xb1]⟩ 1 none, .arrayClass .int, .fieldLink RX1 9 "LampLine$Lamp" "levels" "[I", .classLink RX1 15 RX3, .instantiable RX3 2, .initialized RX3, .fieldLink RX1 20 "LampLine$Lamp" "text" "LLampLine$Row;", .fieldLink RX1 24 "LampLine$Lamp" "laterTexts" "[LLampLine$Row;", .arrayClass .boolean, .fieldLink RX1 28 "LampLine$Lamp" "isLater" "[Z", .fieldLink RX1 32 "LampLine$Lamp" "mode" "I", .fieldLink RX1 36 "LampLine$Lamp" "id" "J", .fieldLink RX1 40 "LampLine$Lamp" "width" "I", .fieldLink RX1 43 "LampLine$Lamp" "modes" "I", .fieldLink RX1 46 "LampLine$Lamp" "address" "I", .methodLink RX1 17 yX3_init, .instanceMethod yX3_init, .code yX3_init cX3_init 2 none, .methodLink RX3 1 objectInit, .fieldLink RX3 7 "LampLine$Row" "cells" "[I"] ++ wsX10 ++ wsX30)
def wsX1_footprint : List Cond := .code yX1_footprint cX1_footprint 1 (some .int) :: ([.fieldLink RX1 40 "LampLine$Lamp" "width" "I", .fieldLink RX1 32 "LampLine$Lamp" "mode" "I"] ++ wsX10)
def wsX1_levelAt : List Cond := .code yX1_levelAt cX1_levelAt 2 (some .int) :: ([.fieldLink RX1 9 "LampLine$Lamp" "levels" "[I"] ++ wsX10)
def wsX1_isDark : List Cond := .code yX1_isDark cX1_isDark 2 (some .boolean) :: ([.fieldLink RX1 49 "LampLine$Lamp" "litAt" "I"] ++ wsX10)
def wsX6_makerOf : List Cond := .code yX6_makerOf cX6_makerOf 2 (some .int) :: ([])
def wsX6_flag : List Cond := .code yX6_flag cX6_flag 1 (some .int) :: ([])
def wsX1_fact_r1 : List Cond := [Cond.fieldLink RX1 36 "LampLine$Lamp" "id" "J", Cond.fieldLink RX1 32 "LampLine$Lamp" "mode" "I", Cond.fieldLink RX1 43 "LampLine$Lamp" "modes" "I", Cond.fieldLink RX1 46 "LampLine$Lamp" "address" "I", Cond.fieldLink RX1 60 "LampLine$Lamp" "silent" "Z", Cond.fieldLink RX1 68 "LampLine$Lamp" "shows" "Z", Cond.fieldLink RX1 75 "LampLine$Lamp" "waiting" "I", Cond.fieldLink RX1 20 "LampLine$Lamp" "text" "LLampLine$Row;", Cond.fieldLink RX1 81 "LampLine$Lamp" "orders" "I", Cond.static yX6_makerOf, Cond.initialized RX6, Cond.code yX6_makerOf cX6_makerOf 2 (some .int), Cond.methodLink RX1 56 yX1_footprint, Cond.instanceMethod yX1_footprint, Cond.selects RX1 yX1_footprint yX1_footprint, Cond.initialized RX1, Cond.code yX1_footprint cX1_footprint 1 (some .int), Cond.fieldLink RX1 40 "LampLine$Lamp" "width" "I", Cond.static yX6_flag, Cond.code yX6_flag cX6_flag 1 (some .int), Cond.methodLink RX1 71 yX1_isDark, Cond.instanceMethod yX1_isDark, Cond.selects RX1 yX1_isDark yX1_isDark, Cond.code yX1_isDark cX1_isDark 2 (some .boolean)]
def wsX1_fact_r2 : List Cond := [Cond.fieldLink RX1 49 "LampLine$Lamp" "litAt" "I", Cond.methodLink RX1 78 yX3_size, Cond.instanceMethod yX3_size, Cond.selects RX3 yX3_size yX3_size, Cond.initialized RX3, Cond.code yX3_size cX3_size 1 (some .int), Cond.fieldLink RX3 13 "LampLine$Row" "size" "I"]
def wsX1_fact : List Cond := .code yX1_fact cX1_fact 3 (some .int) :: ((wsX1_fact_r1 ++ wsX1_fact_r2) ++ wsX10 ++ wsX30)
def wsX3_copyFrom : List Cond := .code yX3_copyFrom cX3_copyFrom 3 none :: ([.fieldLink RX3 13 "LampLine$Row" "size" "I", .fieldLink RX3 7 "LampLine$Row" "cells" "[I"] ++ wsX30)
def wsX1_ripen : List Cond := .code yX1_ripen cX1_ripen 3 none :: ([.fieldLink RX1 28 "LampLine$Lamp" "isLater" "[Z", .fieldLink RX1 20 "LampLine$Lamp" "text" "LLampLine$Row;", .fieldLink RX1 24 "LampLine$Lamp" "laterTexts" "[LLampLine$Row;", .fieldLink RX1 88 "LampLine$Lamp" "onTheWay" "I", .fieldLink RX1 75 "LampLine$Lamp" "waiting" "I", .methodLink RX1 84 yX3_copyFrom, .instanceMethod yX3_copyFrom, .selects RX3 yX3_copyFrom yX3_copyFrom, .initialized RX3, .code yX3_copyFrom cX3_copyFrom 3 none, .fieldLink RX3 13 "LampLine$Row" "size" "I", .fieldLink RX3 7 "LampLine$Row" "cells" "[I"] ++ wsX10 ++ wsX30)
def wsX1_shine_r1 : List Cond := [Cond.fieldLink RX1 46 "LampLine$Lamp" "address" "I", Cond.fieldLink RX1 49 "LampLine$Lamp" "litAt" "I", Cond.methodLink RX1 91 Lib.Math.min.name, Cond.static Lib.Math.min.name, Cond.initialized "java/lang/Math", Cond.code Lib.Math.min.name Lib.Math.min.code 2 (some .int), Cond.fieldLink RX1 9 "LampLine$Lamp" "levels" "[I", Cond.methodLink RX1 78 yX3_size, Cond.instanceMethod yX3_size, Cond.selects RX3 yX3_size yX3_size, Cond.initialized RX3, Cond.code yX3_size cX3_size 1 (some .int), Cond.fieldLink RX3 13 "LampLine$Row" "size" "I", Cond.methodLink RX1 56 yX1_footprint, Cond.instanceMethod yX1_footprint, Cond.selects RX1 yX1_footprint yX1_footprint, Cond.initialized RX1, Cond.code yX1_footprint cX1_footprint 1 (some .int), Cond.fieldLink RX1 40 "LampLine$Lamp" "width" "I", Cond.fieldLink RX1 32 "LampLine$Lamp" "mode" "I", Cond.methodLink RX1 97 yX3_at, Cond.instanceMethod yX3_at, Cond.selects RX3 yX3_at yX3_at, Cond.code yX3_at cX3_at 2 (some .int)]
def wsX1_shine_r2 : List Cond := [Cond.fieldLink RX3 7 "LampLine$Row" "cells" "[I"]
def wsX1_shine : List Cond := .code yX1_shine cX1_shine 5 none :: ((wsX1_shine_r1 ++ wsX1_shine_r2) ++ wsX10 ++ wsX30)
def wsX6_restOf : List Cond := .code yX6_restOf cX6_restOf 2 (some .long) :: ([.constantLong RX6 60 (4294967295)])
def wsX1_isMeantBy : List Cond := .code yX1_isMeantBy cX1_isMeantBy 3 (some .boolean) :: ([.constantLong RX1 105 (4294967295), .fieldLink RX1 36 "LampLine$Lamp" "id" "J", .constant RX1 107 (65535), .static yX6_restOf, .initialized RX6, .code yX6_restOf cX6_restOf 2 (some .long), .constantLong RX6 60 (4294967295), .static yX6_makerOf, .code yX6_makerOf cX6_makerOf 2 (some .int)] ++ wsX10)
def wsX3_number : List Cond := .code yX3_number cX3_number 6 (some .long) :: ([.methodLink RX3 17 yX3_at, .instanceMethod yX3_at, .selects RX3 yX3_at yX3_at, .initialized RX3, .code yX3_at cX3_at 2 (some .int), .fieldLink RX3 13 "LampLine$Row" "size" "I", .fieldLink RX3 7 "LampLine$Row" "cells" "[I"] ++ wsX30)
def wsX2_isCall : List Cond := .code yX2_isCall cX2_isCall 1 (some .boolean) :: ([.fieldLink RX2 20 "LampLine$Packet" "to" "J", .constantLong RX2 28 (4294967295), .static yX6_restOf, .initialized RX6, .code yX6_restOf cX6_restOf 2 (some .long), .constantLong RX6 60 (4294967295)] ++ wsX20)
def wsX2_beginReply : List Cond := .code yX2_beginReply cX2_beginReply 4 none :: ([.fieldLink RX2 46 "LampLine$Packet" "from" "J", .fieldLink RX2 20 "LampLine$Packet" "to" "J", .fieldLink RX2 49 "LampLine$Packet" "count" "I", .fieldLink RX2 53 "LampLine$Packet" "kind" "I", .fieldLink RX2 59 "LampLine$Packet" "part" "I", .fieldLink RX2 62 "LampLine$Packet" "group" "I", .fieldLink RX2 65 "LampLine$Packet" "matter" "I", .fieldLink RX2 16 "LampLine$Packet" "data" "LLampLine$Row;", .methodLink RX2 68 yX3_cut, .instanceMethod yX3_cut, .selects RX3 yX3_cut yX3_cut, .initialized RX3, .code yX3_cut cX3_cut 2 none, .fieldLink RX3 13 "LampLine$Row" "size" "I"] ++ wsX20 ++ wsX30)
def wsX3_putNumber : List Cond := .code yX3_putNumber cX3_putNumber 5 none :: ([.fieldLink RX3 13 "LampLine$Row" "size" "I", .fieldLink RX3 7 "LampLine$Row" "cells" "[I"] ++ wsX30)
def wsX2_writeTo_r1 : List Cond := [Cond.fieldLink RX2 16 "LampLine$Packet" "data" "LLampLine$Row;", Cond.fieldLink RX2 20 "LampLine$Packet" "to" "J", Cond.fieldLink RX2 46 "LampLine$Packet" "from" "J", Cond.fieldLink RX2 49 "LampLine$Packet" "count" "I", Cond.fieldLink RX2 53 "LampLine$Packet" "kind" "I", Cond.fieldLink RX2 56 "LampLine$Packet" "messages" "I", Cond.fieldLink RX2 59 "LampLine$Packet" "part" "I", Cond.fieldLink RX2 62 "LampLine$Packet" "group" "I", Cond.fieldLink RX2 65 "LampLine$Packet" "matter" "I", Cond.methodLink RX2 34 yX3_size, Cond.instanceMethod yX3_size, Cond.selects RX3 yX3_size yX3_size, Cond.initialized RX3, Cond.code yX3_size cX3_size 1 (some .int), Cond.fieldLink RX3 13 "LampLine$Row" "size" "I", Cond.methodLink RX2 68 yX3_cut, Cond.instanceMethod yX3_cut, Cond.selects RX3 yX3_cut yX3_cut, Cond.code yX3_cut cX3_cut 2 none, Cond.methodLink RX2 71 yX3_put, Cond.instanceMethod yX3_put, Cond.selects RX3 yX3_put yX3_put, Cond.code yX3_put cX3_put 2 none, Cond.fieldLink RX3 7 "LampLine$Row" "cells" "[I"]
def wsX2_writeTo_r2 : List Cond := [Cond.methodLink RX2 74 yX3_putNumber, Cond.instanceMethod yX3_putNumber, Cond.selects RX3 yX3_putNumber yX3_putNumber, Cond.code yX3_putNumber cX3_putNumber 5 none, Cond.methodLink RX2 30 yX3_at, Cond.instanceMethod yX3_at, Cond.selects RX3 yX3_at yX3_at, Cond.code yX3_at cX3_at 2 (some .int), Cond.methodLink RX2 38 yX3_sum, Cond.instanceMethod yX3_sum, Cond.selects RX3 yX3_sum yX3_sum, Cond.code yX3_sum cX3_sum 5 (some .int), Cond.constant RX3 21 (65535)]
def wsX2_writeTo : List Cond := .code yX2_writeTo cX2_writeTo 4 none :: ((wsX2_writeTo_r1 ++ wsX2_writeTo_r2) ++ wsX20 ++ wsX30)
def wsX1_speaksToSearch_r1 : List Cond := [Cond.fieldLink RX1 60 "LampLine$Lamp" "silent" "Z", Cond.fieldLink RX1 36 "LampLine$Lamp" "id" "J", Cond.fieldLink RX1 75 "LampLine$Lamp" "waiting" "I", Cond.methodLink RX1 78 yX3_size, Cond.instanceMethod yX3_size, Cond.selects RX3 yX3_size yX3_size, Cond.initialized RX3, Cond.code yX3_size cX3_size 1 (some .int), Cond.fieldLink RX3 13 "LampLine$Row" "size" "I", Cond.methodLink RX1 131 yX3_number, Cond.instanceMethod yX3_number, Cond.selects RX3 yX3_number yX3_number, Cond.code yX3_number cX3_number 6 (some .long), Cond.methodLink RX3 17 yX3_at, Cond.instanceMethod yX3_at, Cond.selects RX3 yX3_at yX3_at, Cond.code yX3_at cX3_at 2 (some .int), Cond.fieldLink RX3 7 "LampLine$Row" "cells" "[I", Cond.methodLink RX1 135 yX0_write, Cond.static yX0_write, Cond.initialized RX0, Cond.code yX0_write cX0_write 5 none, Cond.methodLink RX0 9 yX3_cut, Cond.instanceMethod yX3_cut]
def wsX1_speaksToSearch_r2 : List Cond := [Cond.selects RX3 yX3_cut yX3_cut, Cond.code yX3_cut cX3_cut 2 none, Cond.methodLink RX0 17 yX3_put, Cond.instanceMethod yX3_put, Cond.selects RX3 yX3_put yX3_put, Cond.code yX3_put cX3_put 2 none, Cond.methodLink RX0 20 yX3_sum, Cond.instanceMethod yX3_sum, Cond.selects RX3 yX3_sum yX3_sum, Cond.code yX3_sum cX3_sum 5 (some .int), Cond.constant RX3 21 (65535), Cond.methodLink RX1 117 yX2_isCall, Cond.instanceMethod yX2_isCall, Cond.selects RX2 yX2_isCall yX2_isCall, Cond.initialized RX2, Cond.code yX2_isCall cX2_isCall 1 (some .boolean), Cond.fieldLink RX2 20 "LampLine$Packet" "to" "J", Cond.constantLong RX2 28 (4294967295), Cond.static yX6_restOf, Cond.initialized RX6, Cond.code yX6_restOf cX6_restOf 2 (some .long), Cond.constantLong RX6 60 (4294967295), Cond.methodLink RX1 141 yX2_beginReply, Cond.instanceMethod yX2_beginReply]
def wsX1_speaksToSearch_r3 : List Cond := [Cond.selects RX2 yX2_beginReply yX2_beginReply, Cond.code yX2_beginReply cX2_beginReply 4 none, Cond.fieldLink RX2 46 "LampLine$Packet" "from" "J", Cond.fieldLink RX2 49 "LampLine$Packet" "count" "I", Cond.fieldLink RX2 53 "LampLine$Packet" "kind" "I", Cond.fieldLink RX2 59 "LampLine$Packet" "part" "I", Cond.fieldLink RX2 62 "LampLine$Packet" "group" "I", Cond.fieldLink RX2 65 "LampLine$Packet" "matter" "I", Cond.fieldLink RX2 16 "LampLine$Packet" "data" "LLampLine$Row;", Cond.methodLink RX2 68 yX3_cut, Cond.methodLink RX1 145 yX3_putNumber, Cond.instanceMethod yX3_putNumber, Cond.selects RX3 yX3_putNumber yX3_putNumber, Cond.code yX3_putNumber cX3_putNumber 5 none, Cond.methodLink RX1 152 yX2_writeTo, Cond.instanceMethod yX2_writeTo, Cond.selects RX2 yX2_writeTo yX2_writeTo, Cond.code yX2_writeTo cX2_writeTo 4 none, Cond.fieldLink RX2 56 "LampLine$Packet" "messages" "I", Cond.methodLink RX2 34 yX3_size, Cond.methodLink RX2 71 yX3_put, Cond.methodLink RX2 74 yX3_putNumber, Cond.methodLink RX2 30 yX3_at, Cond.methodLink RX2 38 yX3_sum]
def wsX1_speaksToSearch : List Cond := .code yX1_speaksToSearch cX1_speaksToSearch 5 (some .boolean) :: ((wsX1_speaksToSearch_r1 ++ (wsX1_speaksToSearch_r2 ++ wsX1_speaksToSearch_r3)) ++ wsX20 ++ wsX10 ++ wsX30)
def wsX1_isKnown : List Cond := .code yX1_isKnown cX1_isKnown 2 (some .boolean) :: ([.fieldLink RX1 180 "LampLine$Lamp" "MATTERS" "[I"])
def wsX1_formRefusal : List Cond := .code yX1_formRefusal cX1_formRefusal 4 (some .int) :: ([.constant RX1 107 (65535), .methodLink RX1 177 yX1_isKnown, .static yX1_isKnown, .initialized RX1, .code yX1_isKnown cX1_isKnown 2 (some .boolean), .fieldLink RX1 180 "LampLine$Lamp" "MATTERS" "[I"])
def wsX6_fits : List Cond := .code yX6_fits cX6_fits 2 (some .boolean) :: ([])
def wsX1_valueRefusal : List Cond := .code yX1_valueRefusal cX1_valueRefusal 6 (some .int) :: ([.fieldLink RX1 75 "LampLine$Lamp" "waiting" "I", .fieldLink RX1 88 "LampLine$Lamp" "onTheWay" "I", .fieldLink RX1 43 "LampLine$Lamp" "modes" "I", .fieldLink RX1 46 "LampLine$Lamp" "address" "I", .fieldLink RX1 40 "LampLine$Lamp" "width" "I", .fieldLink RX1 32 "LampLine$Lamp" "mode" "I", .methodLink RX1 78 yX3_size, .instanceMethod yX3_size, .selects RX3 yX3_size yX3_size, .initialized RX3, .code yX3_size cX3_size 1 (some .int), .fieldLink RX3 13 "LampLine$Row" "size" "I", .methodLink RX1 97 yX3_at, .instanceMethod yX3_at, .selects RX3 yX3_at yX3_at, .code yX3_at cX3_at 2 (some .int), .fieldLink RX3 7 "LampLine$Row" "cells" "[I", .static yX6_fits, .initialized RX6, .code yX6_fits cX6_fits 2 (some .boolean)] ++ wsX20 ++ wsX10 ++ wsX30)
def wsX2_refuse : List Cond := .code yX2_refuse cX2_refuse 2 none :: ([.fieldLink RX2 53 "LampLine$Packet" "kind" "I", .fieldLink RX2 16 "LampLine$Packet" "data" "LLampLine$Row;", .methodLink RX2 74 yX3_putNumber, .instanceMethod yX3_putNumber, .selects RX3 yX3_putNumber yX3_putNumber, .initialized RX3, .code yX3_putNumber cX3_putNumber 5 none, .fieldLink RX3 13 "LampLine$Row" "size" "I", .fieldLink RX3 7 "LampLine$Row" "cells" "[I"] ++ wsX20 ++ wsX30)
def wsX1_obey : List Cond := .code yX1_obey cX1_obey 7 none :: ([.fieldLink RX1 20 "LampLine$Lamp" "text" "LLampLine$Row;", .fieldLink RX1 24 "LampLine$Lamp" "laterTexts" "[LLampLine$Row;", .fieldLink RX1 28 "LampLine$Lamp" "isLater" "[Z", .fieldLink RX1 88 "LampLine$Lamp" "onTheWay" "I", .constantLong RX1 190 (3), .fieldLink RX1 32 "LampLine$Lamp" "mode" "I", .fieldLink RX1 46 "LampLine$Lamp" "address" "I", .fieldLink RX1 68 "LampLine$Lamp" "shows" "Z", .methodLink RX1 84 yX3_copyFrom, .instanceMethod yX3_copyFrom, .selects RX3 yX3_copyFrom yX3_copyFrom, .initialized RX3, .code yX3_copyFrom cX3_copyFrom 3 none, .fieldLink RX3 13 "LampLine$Row" "size" "I", .fieldLink RX3 7 "LampLine$Row" "cells" "[I", .methodLink RX1 145 yX3_putNumber, .instanceMethod yX3_putNumber, .selects RX3 yX3_putNumber yX3_putNumber, .code yX3_putNumber cX3_putNumber 5 none, .methodLink RX1 97 yX3_at, .instanceMethod yX3_at, .selects RX3 yX3_at yX3_at, .code yX3_at cX3_at 2 (some .int)] ++ wsX20 ++ wsX10 ++ wsX30)
def wsX1_tell_r1 : List Cond := [Cond.fieldLink RX1 180 "LampLine$Lamp" "MATTERS" "[I", Cond.fieldLink RX1 36 "LampLine$Lamp" "id" "J", Cond.fieldLink RX1 32 "LampLine$Lamp" "mode" "I", Cond.fieldLink RX1 43 "LampLine$Lamp" "modes" "I", Cond.fieldLink RX1 46 "LampLine$Lamp" "address" "I", Cond.fieldLink RX1 81 "LampLine$Lamp" "orders" "I", Cond.fieldLink RX1 20 "LampLine$Lamp" "text" "LLampLine$Row;", Cond.fieldLink RX1 68 "LampLine$Lamp" "shows" "Z", Cond.fieldLink RX1 75 "LampLine$Lamp" "waiting" "I", Cond.methodLink RX1 145 yX3_putNumber, Cond.instanceMethod yX3_putNumber, Cond.selects RX3 yX3_putNumber yX3_putNumber, Cond.initialized RX3, Cond.code yX3_putNumber cX3_putNumber 5 none, Cond.fieldLink RX3 13 "LampLine$Row" "size" "I", Cond.fieldLink RX3 7 "LampLine$Row" "cells" "[I", Cond.methodLink RX1 56 yX1_footprint, Cond.instanceMethod yX1_footprint, Cond.selects RX1 yX1_footprint yX1_footprint, Cond.initialized RX1, Cond.code yX1_footprint cX1_footprint 1 (some .int), Cond.fieldLink RX1 40 "LampLine$Lamp" "width" "I", Cond.methodLink RX1 192 yX3_put, Cond.instanceMethod yX3_put]
def wsX1_tell_r2 : List Cond := [Cond.selects RX3 yX3_put yX3_put, Cond.code yX3_put cX3_put 2 none, Cond.methodLink RX1 84 yX3_copyFrom, Cond.instanceMethod yX3_copyFrom, Cond.selects RX3 yX3_copyFrom yX3_copyFrom, Cond.code yX3_copyFrom cX3_copyFrom 3 none, Cond.static yX6_flag, Cond.initialized RX6, Cond.code yX6_flag cX6_flag 1 (some .int)]
def wsX1_tell : List Cond := .code yX1_tell cX1_tell 6 none :: ((wsX1_tell_r1 ++ wsX1_tell_r2) ++ wsX20 ++ wsX10 ++ wsX30)
def wsX1_speaksToOrder_r1 : List Cond := [Cond.fieldLink RX1 81 "LampLine$Lamp" "orders" "I", Cond.constant RX1 107 (65535), Cond.fieldLink RX1 36 "LampLine$Lamp" "id" "J", Cond.fieldLink RX1 75 "LampLine$Lamp" "waiting" "I", Cond.methodLink RX1 117 yX2_isCall, Cond.instanceMethod yX2_isCall, Cond.selects RX2 yX2_isCall yX2_isCall, Cond.initialized RX2, Cond.code yX2_isCall cX2_isCall 1 (some .boolean), Cond.fieldLink RX2 20 "LampLine$Packet" "to" "J", Cond.constantLong RX2 28 (4294967295), Cond.static yX6_restOf, Cond.initialized RX6, Cond.code yX6_restOf cX6_restOf 2 (some .long), Cond.constantLong RX6 60 (4294967295), Cond.methodLink RX1 141 yX2_beginReply, Cond.instanceMethod yX2_beginReply, Cond.selects RX2 yX2_beginReply yX2_beginReply, Cond.code yX2_beginReply cX2_beginReply 4 none, Cond.fieldLink RX2 46 "LampLine$Packet" "from" "J", Cond.fieldLink RX2 49 "LampLine$Packet" "count" "I", Cond.fieldLink RX2 53 "LampLine$Packet" "kind" "I", Cond.fieldLink RX2 59 "LampLine$Packet" "part" "I", Cond.fieldLink RX2 62 "LampLine$Packet" "group" "I"]
def wsX1_speaksToOrder_r2 : List Cond := [Cond.fieldLink RX2 65 "LampLine$Packet" "matter" "I", Cond.fieldLink RX2 16 "LampLine$Packet" "data" "LLampLine$Row;", Cond.methodLink RX2 68 yX3_cut, Cond.instanceMethod yX3_cut, Cond.selects RX3 yX3_cut yX3_cut, Cond.initialized RX3, Cond.code yX3_cut cX3_cut 2 none, Cond.fieldLink RX3 13 "LampLine$Row" "size" "I", Cond.methodLink RX1 78 yX3_size, Cond.instanceMethod yX3_size, Cond.selects RX3 yX3_size yX3_size, Cond.code yX3_size cX3_size 1 (some .int), Cond.methodLink RX1 158 yX1_formRefusal, Cond.static yX1_formRefusal, Cond.initialized RX1, Cond.code yX1_formRefusal cX1_formRefusal 4 (some .int), Cond.methodLink RX1 177 yX1_isKnown, Cond.static yX1_isKnown, Cond.code yX1_isKnown cX1_isKnown 2 (some .boolean), Cond.fieldLink RX1 180 "LampLine$Lamp" "MATTERS" "[I", Cond.methodLink RX1 162 yX1_valueRefusal, Cond.instanceMethod yX1_valueRefusal, Cond.selects RX1 yX1_valueRefusal yX1_valueRefusal, Cond.code yX1_valueRefusal cX1_valueRefusal 6 (some .int)]
def wsX1_speaksToOrder_r3 : List Cond := [Cond.fieldLink RX1 88 "LampLine$Lamp" "onTheWay" "I", Cond.fieldLink RX1 43 "LampLine$Lamp" "modes" "I", Cond.fieldLink RX1 46 "LampLine$Lamp" "address" "I", Cond.fieldLink RX1 40 "LampLine$Lamp" "width" "I", Cond.fieldLink RX1 32 "LampLine$Lamp" "mode" "I", Cond.methodLink RX1 97 yX3_at, Cond.instanceMethod yX3_at, Cond.selects RX3 yX3_at yX3_at, Cond.code yX3_at cX3_at 2 (some .int), Cond.fieldLink RX3 7 "LampLine$Row" "cells" "[I", Cond.static yX6_fits, Cond.code yX6_fits cX6_fits 2 (some .boolean), Cond.methodLink RX1 166 yX2_refuse, Cond.instanceMethod yX2_refuse, Cond.selects RX2 yX2_refuse yX2_refuse, Cond.code yX2_refuse cX2_refuse 2 none, Cond.methodLink RX2 74 yX3_putNumber, Cond.instanceMethod yX3_putNumber, Cond.selects RX3 yX3_putNumber yX3_putNumber, Cond.code yX3_putNumber cX3_putNumber 5 none, Cond.methodLink RX1 169 yX1_obey, Cond.instanceMethod yX1_obey, Cond.selects RX1 yX1_obey yX1_obey, Cond.code yX1_obey cX1_obey 7 none]
def wsX1_speaksToOrder_r4 : List Cond := [Cond.fieldLink RX1 20 "LampLine$Lamp" "text" "LLampLine$Row;", Cond.fieldLink RX1 24 "LampLine$Lamp" "laterTexts" "[LLampLine$Row;", Cond.fieldLink RX1 28 "LampLine$Lamp" "isLater" "[Z", Cond.constantLong RX1 190 (3), Cond.fieldLink RX1 68 "LampLine$Lamp" "shows" "Z", Cond.methodLink RX1 84 yX3_copyFrom, Cond.instanceMethod yX3_copyFrom, Cond.selects RX3 yX3_copyFrom yX3_copyFrom, Cond.code yX3_copyFrom cX3_copyFrom 3 none, Cond.methodLink RX1 145 yX3_putNumber, Cond.methodLink RX1 173 yX1_tell, Cond.instanceMethod yX1_tell, Cond.selects RX1 yX1_tell yX1_tell, Cond.code yX1_tell cX1_tell 6 none, Cond.methodLink RX1 56 yX1_footprint, Cond.instanceMethod yX1_footprint, Cond.selects RX1 yX1_footprint yX1_footprint, Cond.code yX1_footprint cX1_footprint 1 (some .int), Cond.methodLink RX1 192 yX3_put, Cond.instanceMethod yX3_put, Cond.selects RX3 yX3_put yX3_put, Cond.code yX3_put cX3_put 2 none, Cond.static yX6_flag, Cond.code yX6_flag cX6_flag 1 (some .int)]
def wsX1_speaksToOrder_r5 : List Cond := [Cond.methodLink RX1 152 yX2_writeTo, Cond.instanceMethod yX2_writeTo, Cond.selects RX2 yX2_writeTo yX2_writeTo, Cond.code yX2_writeTo cX2_writeTo 4 none, Cond.fieldLink RX2 56 "LampLine$Packet" "messages" "I", Cond.methodLink RX2 34 yX3_size, Cond.methodLink RX2 71 yX3_put, Cond.methodLink RX2 30 yX3_at, Cond.methodLink RX2 38 yX3_sum, Cond.instanceMethod yX3_sum, Cond.selects RX3 yX3_sum yX3_sum, Cond.code yX3_sum cX3_sum 5 (some .int), Cond.constant RX3 21 (65535)]
def wsX1_speaksToOrder : List Cond := .code yX1_speaksToOrder cX1_speaksToOrder 8 (some .boolean) :: ((wsX1_speaksToOrder_r1 ++ (wsX1_speaksToOrder_r2 ++ (wsX1_speaksToOrder_r3 ++ (wsX1_speaksToOrder_r4 ++ wsX1_speaksToOrder_r5)))) ++ wsX20 ++ wsX10 ++ wsX30)
def wsX1_speaksTo_r1 : List Cond := [Cond.methodLink RX1 113 yX1_speaksToSearch, Cond.instanceMethod yX1_speaksToSearch, Cond.selects RX1 yX1_speaksToSearch yX1_speaksToSearch, Cond.initialized RX1, Cond.code yX1_speaksToSearch cX1_speaksToSearch 5 (some .boolean), Cond.fieldLink RX1 60 "LampLine$Lamp" "silent" "Z", Cond.fieldLink RX1 36 "LampLine$Lamp" "id" "J", Cond.fieldLink RX1 75 "LampLine$Lamp" "waiting" "I", Cond.methodLink RX1 78 yX3_size, Cond.instanceMethod yX3_size, Cond.selects RX3 yX3_size yX3_size, Cond.initialized RX3, Cond.code yX3_size cX3_size 1 (some .int), Cond.fieldLink RX3 13 "LampLine$Row" "size" "I", Cond.methodLink RX1 131 yX3_number, Cond.instanceMethod yX3_number, Cond.selects RX3 yX3_number yX3_number, Cond.code yX3_number cX3_number 6 (some .long), Cond.methodLink RX3 17 yX3_at, Cond.instanceMethod yX3_at, Cond.selects RX3 yX3_at yX3_at, Cond.code yX3_at cX3_at 2 (some .int), Cond.fieldLink RX3 7 "LampLine$Row" "cells" "[I", Cond.methodLink RX1 135 yX0_write]
def wsX1_speaksTo_r2 : List Cond := [Cond.static yX0_write, Cond.initialized RX0, Cond.code yX0_write cX0_write 5 none, Cond.methodLink RX0 9 yX3_cut, Cond.instanceMethod yX3_cut, Cond.selects RX3 yX3_cut yX3_cut, Cond.code yX3_cut cX3_cut 2 none, Cond.methodLink RX0 17 yX3_put, Cond.instanceMethod yX3_put, Cond.selects RX3 yX3_put yX3_put, Cond.code yX3_put cX3_put 2 none, Cond.methodLink RX0 20 yX3_sum, Cond.instanceMethod yX3_sum, Cond.selects RX3 yX3_sum yX3_sum, Cond.code yX3_sum cX3_sum 5 (some .int), Cond.constant RX3 21 (65535), Cond.methodLink RX1 117 yX2_isCall, Cond.instanceMethod yX2_isCall, Cond.selects RX2 yX2_isCall yX2_isCall, Cond.initialized RX2, Cond.code yX2_isCall cX2_isCall 1 (some .boolean), Cond.fieldLink RX2 20 "LampLine$Packet" "to" "J", Cond.constantLong RX2 28 (4294967295), Cond.static yX6_restOf]
def wsX1_speaksTo_r3 : List Cond := [Cond.initialized RX6, Cond.code yX6_restOf cX6_restOf 2 (some .long), Cond.constantLong RX6 60 (4294967295), Cond.methodLink RX1 141 yX2_beginReply, Cond.instanceMethod yX2_beginReply, Cond.selects RX2 yX2_beginReply yX2_beginReply, Cond.code yX2_beginReply cX2_beginReply 4 none, Cond.fieldLink RX2 46 "LampLine$Packet" "from" "J", Cond.fieldLink RX2 49 "LampLine$Packet" "count" "I", Cond.fieldLink RX2 53 "LampLine$Packet" "kind" "I", Cond.fieldLink RX2 59 "LampLine$Packet" "part" "I", Cond.fieldLink RX2 62 "LampLine$Packet" "group" "I", Cond.fieldLink RX2 65 "LampLine$Packet" "matter" "I", Cond.fieldLink RX2 16 "LampLine$Packet" "data" "LLampLine$Row;", Cond.methodLink RX2 68 yX3_cut, Cond.methodLink RX1 145 yX3_putNumber, Cond.instanceMethod yX3_putNumber, Cond.selects RX3 yX3_putNumber yX3_putNumber, Cond.code yX3_putNumber cX3_putNumber 5 none, Cond.methodLink RX1 152 yX2_writeTo, Cond.instanceMethod yX2_writeTo, Cond.selects RX2 yX2_writeTo yX2_writeTo, Cond.code yX2_writeTo cX2_writeTo 4 none, Cond.fieldLink RX2 56 "LampLine$Packet" "messages" "I"]
def wsX1_speaksTo_r4 : List Cond := [Cond.methodLink RX2 34 yX3_size, Cond.methodLink RX2 71 yX3_put, Cond.methodLink RX2 74 yX3_putNumber, Cond.methodLink RX2 30 yX3_at, Cond.methodLink RX2 38 yX3_sum, Cond.methodLink RX1 121 yX1_speaksToOrder, Cond.instanceMethod yX1_speaksToOrder, Cond.selects RX1 yX1_speaksToOrder yX1_speaksToOrder, Cond.code yX1_speaksToOrder cX1_speaksToOrder 8 (some .boolean), Cond.fieldLink RX1 81 "LampLine$Lamp" "orders" "I", Cond.constant RX1 107 (65535), Cond.methodLink RX1 158 yX1_formRefusal, Cond.static yX1_formRefusal, Cond.code yX1_formRefusal cX1_formRefusal 4 (some .int), Cond.methodLink RX1 177 yX1_isKnown, Cond.static yX1_isKnown, Cond.code yX1_isKnown cX1_isKnown 2 (some .boolean), Cond.fieldLink RX1 180 "LampLine$Lamp" "MATTERS" "[I", Cond.methodLink RX1 162 yX1_valueRefusal, Cond.instanceMethod yX1_valueRefusal, Cond.selects RX1 yX1_valueRefusal yX1_valueRefusal, Cond.code yX1_valueRefusal cX1_valueRefusal 6 (some .int), Cond.fieldLink RX1 88 "LampLine$Lamp" "onTheWay" "I", Cond.fieldLink RX1 43 "LampLine$Lamp" "modes" "I"]
def wsX1_speaksTo_r5 : List Cond := [Cond.fieldLink RX1 46 "LampLine$Lamp" "address" "I", Cond.fieldLink RX1 40 "LampLine$Lamp" "width" "I", Cond.fieldLink RX1 32 "LampLine$Lamp" "mode" "I", Cond.methodLink RX1 97 yX3_at, Cond.static yX6_fits, Cond.code yX6_fits cX6_fits 2 (some .boolean), Cond.methodLink RX1 166 yX2_refuse, Cond.instanceMethod yX2_refuse, Cond.selects RX2 yX2_refuse yX2_refuse, Cond.code yX2_refuse cX2_refuse 2 none, Cond.methodLink RX1 169 yX1_obey, Cond.instanceMethod yX1_obey, Cond.selects RX1 yX1_obey yX1_obey, Cond.code yX1_obey cX1_obey 7 none, Cond.fieldLink RX1 20 "LampLine$Lamp" "text" "LLampLine$Row;", Cond.fieldLink RX1 24 "LampLine$Lamp" "laterTexts" "[LLampLine$Row;", Cond.fieldLink RX1 28 "LampLine$Lamp" "isLater" "[Z", Cond.constantLong RX1 190 (3), Cond.fieldLink RX1 68 "LampLine$Lamp" "shows" "Z", Cond.methodLink RX1 84 yX3_copyFrom, Cond.instanceMethod yX3_copyFrom, Cond.selects RX3 yX3_copyFrom yX3_copyFrom, Cond.code yX3_copyFrom cX3_copyFrom 3 none, Cond.methodLink RX1 173 yX1_tell]
def wsX1_speaksTo_r6 : List Cond := [Cond.instanceMethod yX1_tell, Cond.selects RX1 yX1_tell yX1_tell, Cond.code yX1_tell cX1_tell 6 none, Cond.methodLink RX1 56 yX1_footprint, Cond.instanceMethod yX1_footprint, Cond.selects RX1 yX1_footprint yX1_footprint, Cond.code yX1_footprint cX1_footprint 1 (some .int), Cond.methodLink RX1 192 yX3_put, Cond.static yX6_flag, Cond.code yX6_flag cX6_flag 1 (some .int)]
def wsX1_speaksTo : List Cond := .code yX1_speaksTo cX1_speaksTo 5 (some .boolean) :: ((wsX1_speaksTo_r1 ++ (wsX1_speaksTo_r2 ++ (wsX1_speaksTo_r3 ++ (wsX1_speaksTo_r4 ++ (wsX1_speaksTo_r5 ++ wsX1_speaksTo_r6))))) ++ wsX20 ++ wsX10 ++ wsX30)
def wsX2_init : List Cond := .code yX2_init cX2_init 1 none :: ([.methodLink RX2 5 objectInit, .instanceMethod objectInit, .code objectInit ⟨#[0xb1]⟩ 1 none, .classLink RX2 11 RX3, .instantiable RX3 2, .initialized RX3, .fieldLink RX2 16 "LampLine$Packet" "data" "LLampLine$Row;", .methodLink RX2 13 yX3_init, .instanceMethod yX3_init, .code yX3_init cX3_init 2 none, .methodLink RX3 1 objectInit, .arrayClass .int, .fieldLink RX3 7 "LampLine$Row" "cells" "[I"] ++ wsX30 ++ wsX20)
def wsX2_readFrom_r1 : List Cond := [Cond.fieldLink RX2 20 "LampLine$Packet" "to" "J", Cond.fieldLink RX2 46 "LampLine$Packet" "from" "J", Cond.fieldLink RX2 49 "LampLine$Packet" "count" "I", Cond.fieldLink RX2 53 "LampLine$Packet" "kind" "I", Cond.fieldLink RX2 56 "LampLine$Packet" "messages" "I", Cond.fieldLink RX2 59 "LampLine$Packet" "part" "I", Cond.fieldLink RX2 62 "LampLine$Packet" "group" "I", Cond.fieldLink RX2 65 "LampLine$Packet" "matter" "I", Cond.fieldLink RX2 16 "LampLine$Packet" "data" "LLampLine$Row;", Cond.methodLink RX2 30 yX3_at, Cond.instanceMethod yX3_at, Cond.selects RX3 yX3_at yX3_at, Cond.initialized RX3, Cond.code yX3_at cX3_at 2 (some .int), Cond.fieldLink RX3 13 "LampLine$Row" "size" "I", Cond.fieldLink RX3 7 "LampLine$Row" "cells" "[I", Cond.methodLink RX2 34 yX3_size, Cond.instanceMethod yX3_size, Cond.selects RX3 yX3_size yX3_size, Cond.code yX3_size cX3_size 1 (some .int), Cond.methodLink RX2 38 yX3_sum, Cond.instanceMethod yX3_sum, Cond.selects RX3 yX3_sum yX3_sum, Cond.code yX3_sum cX3_sum 5 (some .int)]
def wsX2_readFrom_r2 : List Cond := [Cond.constant RX3 21 (65535), Cond.methodLink RX2 42 yX3_number, Cond.instanceMethod yX3_number, Cond.selects RX3 yX3_number yX3_number, Cond.code yX3_number cX3_number 6 (some .long), Cond.methodLink RX3 17 yX3_at, Cond.methodLink RX2 68 yX3_cut, Cond.instanceMethod yX3_cut, Cond.selects RX3 yX3_cut yX3_cut, Cond.code yX3_cut cX3_cut 2 none, Cond.methodLink RX2 71 yX3_put, Cond.instanceMethod yX3_put, Cond.selects RX3 yX3_put yX3_put, Cond.code yX3_put cX3_put 2 none]
def wsX2_readFrom : List Cond := .code yX2_readFrom cX2_readFrom 4 (some .boolean) :: ((wsX2_readFrom_r1 ++ wsX2_readFrom_r2) ++ wsX20 ++ wsX30)
def wsX3_join : List Cond := .code yX3_join cX3_join 3 none :: ([.fieldLink RX3 13 "LampLine$Row" "size" "I", .fieldLink RX3 7 "LampLine$Row" "cells" "[I"] ++ wsX30)
def wsX3_flip : List Cond := .code yX3_flip cX3_flip 3 none :: ([.fieldLink RX3 13 "LampLine$Row" "size" "I", .fieldLink RX3 7 "LampLine$Row" "cells" "[I"] ++ wsX30)
def wsX4_init : List Cond := .code yX4_init cX4_init 1 none :: ([.methodLink RX4 3 objectInit, .instanceMethod objectInit, .code objectInit ⟨#[0xb1]⟩ 1 none, .arrayClass .long, .fieldLink RX4 11 "LampLine$Search" "lows" "[J", .fieldLink RX4 15 "LampLine$Search" "highs" "[J", .fieldLink RX4 18 "LampLine$Search" "foundIds" "[J"] ++ wsX40)
def wsX4_pile : List Cond := .code yX4_pile cX4_pile 5 none :: ([.fieldLink RX4 25 "LampLine$Search" "depth" "I", .fieldLink RX4 11 "LampLine$Search" "lows" "[J", .fieldLink RX4 15 "LampLine$Search" "highs" "[J"] ++ wsX40)
def wsX4_begin : List Cond := .code yX4_begin cX4_begin 1 none :: ([.fieldLink RX4 21 "LampLine$Search" "begun" "Z", .fieldLink RX4 25 "LampLine$Search" "depth" "I", .fieldLink RX4 29 "LampLine$Search" "foundCount" "I", .fieldLink RX4 32 "LampLine$Search" "steps" "I", .constantLong RX4 35 (281474976710654), .methodLink RX4 37 yX4_pile, .instanceMethod yX4_pile, .selects RX4 yX4_pile yX4_pile, .initialized RX4, .code yX4_pile cX4_pile 5 none, .fieldLink RX4 11 "LampLine$Search" "lows" "[J", .fieldLink RX4 15 "LampLine$Search" "highs" "[J"] ++ wsX40)
def wsX4_latestLow : List Cond := .code yX4_latestLow cX4_latestLow 1 (some .long) :: ([.fieldLink RX4 25 "LampLine$Search" "depth" "I", .fieldLink RX4 11 "LampLine$Search" "lows" "[J", .constantLong RX4 41 (-1)] ++ wsX40)
def wsX4_latestHigh : List Cond := .code yX4_latestHigh cX4_latestHigh 1 (some .long) :: ([.fieldLink RX4 25 "LampLine$Search" "depth" "I", .fieldLink RX4 15 "LampLine$Search" "highs" "[J", .constantLong RX4 41 (-1)] ++ wsX40)
def wsX4_takeLatest : List Cond := .code yX4_takeLatest cX4_takeLatest 1 none :: ([.fieldLink RX4 25 "LampLine$Search" "depth" "I", .fieldLink RX4 32 "LampLine$Search" "steps" "I"] ++ wsX40)
def wsX4_hasFound : List Cond := .code yX4_hasFound cX4_hasFound 4 (some .boolean) :: ([.fieldLink RX4 29 "LampLine$Search" "foundCount" "I", .fieldLink RX4 18 "LampLine$Search" "foundIds" "[J"] ++ wsX40)
def wsX4_keepFound : List Cond := .code yX4_keepFound cX4_keepFound 3 none :: ([.fieldLink RX4 29 "LampLine$Search" "foundCount" "I", .fieldLink RX4 18 "LampLine$Search" "foundIds" "[J", .methodLink RX4 43 yX4_hasFound, .instanceMethod yX4_hasFound, .selects RX4 yX4_hasFound yX4_hasFound, .initialized RX4, .code yX4_hasFound cX4_hasFound 4 (some .boolean)] ++ wsX40)
def wsX5_init : List Cond := .code yX5_init cX5_init 1 none :: ([.methodLink RX5 1 objectInit, .instanceMethod objectInit, .code objectInit ⟨#[0xb1]⟩ 1 none, .arrayClass .int, .fieldLink RX5 9 "LampLine$Spoils" "places" "[I", .fieldLink RX5 13 "LampLine$Spoils" "masks" "[I"] ++ wsX50)
def wsX5_dropFirst : List Cond := .code yX5_dropFirst cX5_dropFirst 2 none :: ([.fieldLink RX5 9 "LampLine$Spoils" "places" "[I", .fieldLink RX5 13 "LampLine$Spoils" "masks" "[I", .fieldLink RX5 16 "LampLine$Spoils" "size" "I"] ++ wsX50)
def wsX5_add : List Cond := .code yX5_add cX5_add 3 none :: ([.fieldLink RX5 16 "LampLine$Spoils" "size" "I", .fieldLink RX5 9 "LampLine$Spoils" "places" "[I", .fieldLink RX5 13 "LampLine$Spoils" "masks" "[I", .methodLink RX5 20 yX5_dropFirst, .instanceMethod yX5_dropFirst, .selects RX5 yX5_dropFirst yX5_dropFirst, .initialized RX5, .code yX5_dropFirst cX5_dropFirst 2 none] ++ wsX50)
def wsX5_applyTo : List Cond := .code yX5_applyTo cX5_applyTo 3 none :: ([.fieldLink RX5 16 "LampLine$Spoils" "size" "I", .fieldLink RX5 9 "LampLine$Spoils" "places" "[I", .fieldLink RX5 13 "LampLine$Spoils" "masks" "[I", .methodLink RX5 23 yX3_flip, .instanceMethod yX3_flip, .selects RX3 yX3_flip yX3_flip, .initialized RX3, .code yX3_flip cX3_flip 3 none, .fieldLink RX3 13 "LampLine$Row" "size" "I", .fieldLink RX3 7 "LampLine$Row" "cells" "[I"] ++ wsX50 ++ wsX30)
def wsX6_init_r1 : List Cond := [Cond.methodLink RX6 1 objectInit, Cond.instanceMethod objectInit, Cond.code objectInit ⟨#[0xb1]⟩ 1 none, Cond.classLink RX6 7 RX3, Cond.instantiable RX3 2, Cond.initialized RX3, Cond.fieldLink RX6 14 "LampLine" "tape" "LLampLine$Row;", Cond.fieldLink RX6 18 "LampLine" "frame" "LLampLine$Row;", Cond.fieldLink RX6 23 "LampLine" "voice" "LLampLine$Row;", Cond.fieldLink RX6 26 "LampLine" "heardAnswer" "LLampLine$Row;", Cond.classLink RX6 21 RX2, Cond.instantiable RX2 9, Cond.initialized RX2, Cond.fieldLink RX6 30 "LampLine" "question" "LLampLine$Packet;", Cond.fieldLink RX6 34 "LampLine" "heard" "LLampLine$Packet;", Cond.fieldLink RX6 37 "LampLine" "reply" "LLampLine$Packet;", Cond.classLink RX6 40 RX5, Cond.instantiable RX5 3, Cond.initialized RX5, Cond.fieldLink RX6 43 "LampLine" "spoils" "LLampLine$Spoils;", Cond.classLink RX6 47 RX4, Cond.instantiable RX4 7, Cond.initialized RX4, Cond.fieldLink RX6 50 "LampLine" "hunt" "LLampLine$Search;"]
def wsX6_init_r2 : List Cond := [Cond.classLink RX6 54 RX1, Cond.fieldLink RX6 56 "LampLine" "lamps" "[LLampLine$Lamp;", Cond.methodLink RX6 11 yX3_init, Cond.instanceMethod yX3_init, Cond.code yX3_init cX3_init 2 none, Cond.methodLink RX3 1 objectInit, Cond.arrayClass .int, Cond.fieldLink RX3 7 "LampLine$Row" "cells" "[I", Cond.instanceMethod yX2_init, Cond.code yX2_init cX2_init 1 none, Cond.methodLink RX2 5 objectInit, Cond.classLink RX2 11 RX3, Cond.fieldLink RX2 16 "LampLine$Packet" "data" "LLampLine$Row;", Cond.methodLink RX2 13 yX3_init, Cond.instanceMethod yX5_init, Cond.code yX5_init cX5_init 1 none, Cond.methodLink RX5 1 objectInit, Cond.fieldLink RX5 9 "LampLine$Spoils" "places" "[I", Cond.fieldLink RX5 13 "LampLine$Spoils" "masks" "[I", Cond.instanceMethod yX4_init, Cond.code yX4_init cX4_init 1 none, Cond.methodLink RX4 3 objectInit, Cond.arrayClass .long, Cond.fieldLink RX4 11 "LampLine$Search" "lows" "[J"]
def wsX6_init_r3 : List Cond := [Cond.fieldLink RX4 15 "LampLine$Search" "highs" "[J", Cond.fieldLink RX4 18 "LampLine$Search" "foundIds" "[J"]
def wsX6_init : List Cond := .code yX6_init cX6_init 1 none :: ((wsX6_init_r1 ++ (wsX6_init_r2 ++ wsX6_init_r3)) ++ wsX30 ++ wsX60 ++ wsX20 ++ wsX50 ++ wsX40)
def wsX6_joinedId : List Cond := .code yX6_joinedId cX6_joinedId 3 (some .long) :: ([])
def wsX6_isThere : List Cond := .code yX6_isThere cX6_isThere 4 (some .boolean) :: ([.fieldLink RX6 87 "LampLine" "lampCount" "I", .fieldLink RX6 56 "LampLine" "lamps" "[LLampLine$Lamp;"] ++ wsX60 ++ wsX10)
def wsX6_lamp_r1 : List Cond := [Cond.classLink RX6 62 "java/lang/IllegalArgumentException", Cond.initialized "java/lang/IllegalArgumentException", Cond.classLink RX6 91 "java/lang/IllegalStateException", Cond.initialized "java/lang/IllegalStateException", Cond.constantLong RX6 60 (4294967295), Cond.fieldLink RX6 87 "LampLine" "lampCount" "I", Cond.fieldLink RX6 56 "LampLine" "lamps" "[LLampLine$Lamp;", Cond.classLink RX6 54 RX1, Cond.instantiable RX1 15, Cond.initialized RX1, Cond.methodLink RX6 71 yX6_fits, Cond.static yX6_fits, Cond.initialized RX6, Cond.code yX6_fits cX6_fits 2 (some .boolean), Cond.methodLink RX6 77 yX6_joinedId, Cond.static yX6_joinedId, Cond.code yX6_joinedId cX6_joinedId 3 (some .long), Cond.methodLink RX6 81 yX6_isThere, Cond.instanceMethod yX6_isThere, Cond.selects RX6 yX6_isThere yX6_isThere, Cond.code yX6_isThere cX6_isThere 4 (some .boolean), Cond.methodLink RX6 96 yX1_init, Cond.instanceMethod yX1_init, Cond.code yX1_init cX1_init 7 none]
def wsX6_lamp_r2 : List Cond := [Cond.methodLink RX1 3 objectInit, Cond.instanceMethod objectInit, Cond.code objectInit ⟨#[0xb1]⟩ 1 none, Cond.arrayClass .int, Cond.fieldLink RX1 9 "LampLine$Lamp" "levels" "[I", Cond.classLink RX1 15 RX3, Cond.instantiable RX3 2, Cond.initialized RX3, Cond.fieldLink RX1 20 "LampLine$Lamp" "text" "LLampLine$Row;", Cond.fieldLink RX1 24 "LampLine$Lamp" "laterTexts" "[LLampLine$Row;", Cond.arrayClass .boolean, Cond.fieldLink RX1 28 "LampLine$Lamp" "isLater" "[Z", Cond.fieldLink RX1 32 "LampLine$Lamp" "mode" "I", Cond.fieldLink RX1 36 "LampLine$Lamp" "id" "J", Cond.fieldLink RX1 40 "LampLine$Lamp" "width" "I", Cond.fieldLink RX1 43 "LampLine$Lamp" "modes" "I", Cond.fieldLink RX1 46 "LampLine$Lamp" "address" "I", Cond.methodLink RX1 17 yX3_init, Cond.instanceMethod yX3_init, Cond.code yX3_init cX3_init 2 none, Cond.methodLink RX3 1 objectInit, Cond.fieldLink RX3 7 "LampLine$Row" "cells" "[I"]
def wsX6_lamp : List Cond := .code yX6_lamp cX6_lamp 9 (some .int) :: ((wsX6_lamp_r1 ++ wsX6_lamp_r2) ++ wsX60 ++ wsX10 ++ wsX30 ++ (vx_atS RX6 66 "java/lang/IllegalArgumentException" ["java/lang/RuntimeException", "java/lang/Exception"]).filter goodWord ++ (vx_atS RX6 95 "java/lang/IllegalStateException" ["java/lang/RuntimeException", "java/lang/Exception"]).filter goodWord)
def wsX6_feed : List Cond := .code yX6_feed cX6_feed 6 (some .int) :: ([.classLink RX6 91 "java/lang/IllegalStateException", .initialized "java/lang/IllegalStateException", .fieldLink RX6 14 "LampLine" "tape" "LLampLine$Row;", .methodLink RX6 99 yX3_size, .instanceMethod yX3_size, .selects RX3 yX3_size yX3_size, .initialized RX3, .code yX3_size cX3_size 1 (some .int), .fieldLink RX3 13 "LampLine$Row" "size" "I", .methodLink RX6 105 yX3_putNumber, .instanceMethod yX3_putNumber, .selects RX3 yX3_putNumber yX3_putNumber, .code yX3_putNumber cX3_putNumber 5 none, .fieldLink RX3 7 "LampLine$Row" "cells" "[I"] ++ wsX60 ++ wsX30 ++ (vx_atS RX6 95 "java/lang/IllegalStateException" ["java/lang/RuntimeException", "java/lang/Exception"]).filter goodWord)
def wsX6_end : List Cond := .code yX6_end cX6_end 2 none :: ([.classLink RX6 62 "java/lang/IllegalArgumentException", .initialized "java/lang/IllegalArgumentException", .fieldLink RX6 14 "LampLine" "tape" "LLampLine$Row;", .methodLink RX6 99 yX3_size, .instanceMethod yX3_size, .selects RX3 yX3_size yX3_size, .initialized RX3, .code yX3_size cX3_size 1 (some .int), .fieldLink RX3 13 "LampLine$Row" "size" "I", .methodLink RX6 111 yX3_cut, .instanceMethod yX3_cut, .selects RX3 yX3_cut yX3_cut, .code yX3_cut cX3_cut 2 none] ++ wsX60 ++ wsX30 ++ (vx_atS RX6 66 "java/lang/IllegalArgumentException" ["java/lang/RuntimeException", "java/lang/Exception"]).filter goodWord)
def wsX6_runFrame_r1 : List Cond := [Cond.fieldLink RX6 160 "LampLine" "frameCount" "I", Cond.fieldLink RX6 26 "LampLine" "heardAnswer" "LLampLine$Row;", Cond.fieldLink RX6 18 "LampLine" "frame" "LLampLine$Row;", Cond.fieldLink RX6 34 "LampLine" "heard" "LLampLine$Packet;", Cond.fieldLink RX6 87 "LampLine" "lampCount" "I", Cond.fieldLink RX6 56 "LampLine" "lamps" "[LLampLine$Lamp;", Cond.fieldLink RX6 37 "LampLine" "reply" "LLampLine$Packet;", Cond.fieldLink RX6 23 "LampLine" "voice" "LLampLine$Row;", Cond.fieldLink RX6 43 "LampLine" "spoils" "LLampLine$Spoils;", Cond.methodLink RX6 111 yX3_cut, Cond.instanceMethod yX3_cut, Cond.selects RX3 yX3_cut yX3_cut, Cond.initialized RX3, Cond.code yX3_cut cX3_cut 2 none, Cond.fieldLink RX3 13 "LampLine$Row" "size" "I", Cond.methodLink RX6 99 yX3_size, Cond.instanceMethod yX3_size, Cond.selects RX3 yX3_size yX3_size, Cond.code yX3_size cX3_size 1 (some .int), Cond.methodLink RX6 126 yX3_at, Cond.instanceMethod yX3_at, Cond.selects RX3 yX3_at yX3_at, Cond.code yX3_at cX3_at 2 (some .int), Cond.fieldLink RX3 7 "LampLine$Row" "cells" "[I"]
def wsX6_runFrame_r2 : List Cond := [Cond.methodLink RX6 246 yX2_readFrom, Cond.instanceMethod yX2_readFrom, Cond.selects RX2 yX2_readFrom yX2_readFrom, Cond.initialized RX2, Cond.code yX2_readFrom cX2_readFrom 4 (some .boolean), Cond.fieldLink RX2 20 "LampLine$Packet" "to" "J", Cond.fieldLink RX2 46 "LampLine$Packet" "from" "J", Cond.fieldLink RX2 49 "LampLine$Packet" "count" "I", Cond.fieldLink RX2 53 "LampLine$Packet" "kind" "I", Cond.fieldLink RX2 56 "LampLine$Packet" "messages" "I", Cond.fieldLink RX2 59 "LampLine$Packet" "part" "I", Cond.fieldLink RX2 62 "LampLine$Packet" "group" "I", Cond.fieldLink RX2 65 "LampLine$Packet" "matter" "I", Cond.fieldLink RX2 16 "LampLine$Packet" "data" "LLampLine$Row;", Cond.methodLink RX2 30 yX3_at, Cond.methodLink RX2 34 yX3_size, Cond.methodLink RX2 38 yX3_sum, Cond.instanceMethod yX3_sum, Cond.selects RX3 yX3_sum yX3_sum, Cond.code yX3_sum cX3_sum 5 (some .int), Cond.constant RX3 21 (65535), Cond.methodLink RX2 42 yX3_number, Cond.instanceMethod yX3_number, Cond.selects RX3 yX3_number yX3_number]
def wsX6_runFrame_r3 : List Cond := [Cond.code yX3_number cX3_number 6 (some .long), Cond.methodLink RX3 17 yX3_at, Cond.methodLink RX2 68 yX3_cut, Cond.methodLink RX2 71 yX3_put, Cond.instanceMethod yX3_put, Cond.selects RX3 yX3_put yX3_put, Cond.code yX3_put cX3_put 2 none, Cond.methodLink RX6 250 yX1_ripen, Cond.instanceMethod yX1_ripen, Cond.selects RX1 yX1_ripen yX1_ripen, Cond.initialized RX1, Cond.code yX1_ripen cX1_ripen 3 none, Cond.fieldLink RX1 28 "LampLine$Lamp" "isLater" "[Z", Cond.fieldLink RX1 20 "LampLine$Lamp" "text" "LLampLine$Row;", Cond.fieldLink RX1 24 "LampLine$Lamp" "laterTexts" "[LLampLine$Row;", Cond.fieldLink RX1 88 "LampLine$Lamp" "onTheWay" "I", Cond.fieldLink RX1 75 "LampLine$Lamp" "waiting" "I", Cond.methodLink RX1 84 yX3_copyFrom, Cond.instanceMethod yX3_copyFrom, Cond.selects RX3 yX3_copyFrom yX3_copyFrom, Cond.code yX3_copyFrom cX3_copyFrom 3 none, Cond.methodLink RX6 253 yX1_shine, Cond.instanceMethod yX1_shine, Cond.selects RX1 yX1_shine yX1_shine]
def wsX6_runFrame_r4 : List Cond := [Cond.code yX1_shine cX1_shine 5 none, Cond.fieldLink RX1 46 "LampLine$Lamp" "address" "I", Cond.fieldLink RX1 49 "LampLine$Lamp" "litAt" "I", Cond.methodLink RX1 91 Lib.Math.min.name, Cond.static Lib.Math.min.name, Cond.initialized "java/lang/Math", Cond.code Lib.Math.min.name Lib.Math.min.code 2 (some .int), Cond.fieldLink RX1 9 "LampLine$Lamp" "levels" "[I", Cond.methodLink RX1 78 yX3_size, Cond.methodLink RX1 56 yX1_footprint, Cond.instanceMethod yX1_footprint, Cond.selects RX1 yX1_footprint yX1_footprint, Cond.code yX1_footprint cX1_footprint 1 (some .int), Cond.fieldLink RX1 40 "LampLine$Lamp" "width" "I", Cond.fieldLink RX1 32 "LampLine$Lamp" "mode" "I", Cond.methodLink RX1 97 yX3_at, Cond.methodLink RX6 260 yX1_isMeantBy, Cond.instanceMethod yX1_isMeantBy, Cond.selects RX1 yX1_isMeantBy yX1_isMeantBy, Cond.code yX1_isMeantBy cX1_isMeantBy 3 (some .boolean), Cond.constantLong RX1 105 (4294967295), Cond.fieldLink RX1 36 "LampLine$Lamp" "id" "J", Cond.constant RX1 107 (65535), Cond.static yX6_restOf]
def wsX6_runFrame_r5 : List Cond := [Cond.initialized RX6, Cond.code yX6_restOf cX6_restOf 2 (some .long), Cond.constantLong RX6 60 (4294967295), Cond.static yX6_makerOf, Cond.code yX6_makerOf cX6_makerOf 2 (some .int), Cond.methodLink RX6 263 yX1_speaksTo, Cond.instanceMethod yX1_speaksTo, Cond.selects RX1 yX1_speaksTo yX1_speaksTo, Cond.code yX1_speaksTo cX1_speaksTo 5 (some .boolean), Cond.methodLink RX1 113 yX1_speaksToSearch, Cond.instanceMethod yX1_speaksToSearch, Cond.selects RX1 yX1_speaksToSearch yX1_speaksToSearch, Cond.code yX1_speaksToSearch cX1_speaksToSearch 5 (some .boolean), Cond.fieldLink RX1 60 "LampLine$Lamp" "silent" "Z", Cond.methodLink RX1 131 yX3_number, Cond.methodLink RX1 135 yX0_write, Cond.static yX0_write, Cond.initialized RX0, Cond.code yX0_write cX0_write 5 none, Cond.methodLink RX0 9 yX3_cut, Cond.methodLink RX0 17 yX3_put, Cond.methodLink RX0 20 yX3_sum, Cond.methodLink RX1 117 yX2_isCall, Cond.instanceMethod yX2_isCall]
def wsX6_runFrame_r6 : List Cond := [Cond.selects RX2 yX2_isCall yX2_isCall, Cond.code yX2_isCall cX2_isCall 1 (some .boolean), Cond.constantLong RX2 28 (4294967295), Cond.methodLink RX1 141 yX2_beginReply, Cond.instanceMethod yX2_beginReply, Cond.selects RX2 yX2_beginReply yX2_beginReply, Cond.code yX2_beginReply cX2_beginReply 4 none, Cond.methodLink RX1 145 yX3_putNumber, Cond.instanceMethod yX3_putNumber, Cond.selects RX3 yX3_putNumber yX3_putNumber, Cond.code yX3_putNumber cX3_putNumber 5 none, Cond.methodLink RX1 152 yX2_writeTo, Cond.instanceMethod yX2_writeTo, Cond.selects RX2 yX2_writeTo yX2_writeTo, Cond.code yX2_writeTo cX2_writeTo 4 none, Cond.methodLink RX2 74 yX3_putNumber, Cond.methodLink RX1 121 yX1_speaksToOrder, Cond.instanceMethod yX1_speaksToOrder, Cond.selects RX1 yX1_speaksToOrder yX1_speaksToOrder, Cond.code yX1_speaksToOrder cX1_speaksToOrder 8 (some .boolean), Cond.fieldLink RX1 81 "LampLine$Lamp" "orders" "I", Cond.methodLink RX1 158 yX1_formRefusal, Cond.static yX1_formRefusal, Cond.code yX1_formRefusal cX1_formRefusal 4 (some .int)]
def wsX6_runFrame_r7 : List Cond := [Cond.methodLink RX1 177 yX1_isKnown, Cond.static yX1_isKnown, Cond.code yX1_isKnown cX1_isKnown 2 (some .boolean), Cond.fieldLink RX1 180 "LampLine$Lamp" "MATTERS" "[I", Cond.methodLink RX1 162 yX1_valueRefusal, Cond.instanceMethod yX1_valueRefusal, Cond.selects RX1 yX1_valueRefusal yX1_valueRefusal, Cond.code yX1_valueRefusal cX1_valueRefusal 6 (some .int), Cond.fieldLink RX1 43 "LampLine$Lamp" "modes" "I", Cond.static yX6_fits, Cond.code yX6_fits cX6_fits 2 (some .boolean), Cond.methodLink RX1 166 yX2_refuse, Cond.instanceMethod yX2_refuse, Cond.selects RX2 yX2_refuse yX2_refuse, Cond.code yX2_refuse cX2_refuse 2 none, Cond.methodLink RX1 169 yX1_obey, Cond.instanceMethod yX1_obey, Cond.selects RX1 yX1_obey yX1_obey, Cond.code yX1_obey cX1_obey 7 none, Cond.constantLong RX1 190 (3), Cond.fieldLink RX1 68 "LampLine$Lamp" "shows" "Z", Cond.methodLink RX1 173 yX1_tell, Cond.instanceMethod yX1_tell, Cond.selects RX1 yX1_tell yX1_tell]
def wsX6_runFrame_r8 : List Cond := [Cond.code yX1_tell cX1_tell 6 none, Cond.methodLink RX1 192 yX3_put, Cond.static yX6_flag, Cond.code yX6_flag cX6_flag 1 (some .int), Cond.methodLink RX6 267 yX3_join, Cond.instanceMethod yX3_join, Cond.selects RX3 yX3_join yX3_join, Cond.code yX3_join cX3_join 3 none, Cond.methodLink RX6 270 yX5_applyTo, Cond.instanceMethod yX5_applyTo, Cond.selects RX5 yX5_applyTo yX5_applyTo, Cond.initialized RX5, Cond.code yX5_applyTo cX5_applyTo 3 none, Cond.fieldLink RX5 16 "LampLine$Spoils" "size" "I", Cond.fieldLink RX5 9 "LampLine$Spoils" "places" "[I", Cond.fieldLink RX5 13 "LampLine$Spoils" "masks" "[I", Cond.methodLink RX5 23 yX3_flip, Cond.instanceMethod yX3_flip, Cond.selects RX3 yX3_flip yX3_flip, Cond.code yX3_flip cX3_flip 3 none]
def wsX6_runFrame : List Cond := .code yX6_runFrame cX6_runFrame 5 none :: ((wsX6_runFrame_r1 ++ (wsX6_runFrame_r2 ++ (wsX6_runFrame_r3 ++ (wsX6_runFrame_r4 ++ (wsX6_runFrame_r5 ++ (wsX6_runFrame_r6 ++ (wsX6_runFrame_r7 ++ wsX6_runFrame_r8))))))) ++ wsX60 ++ wsX20 ++ wsX30 ++ wsX10 ++ wsX50)
def wsX6_send_r1 : List Cond := [Cond.fieldLink RX6 18 "LampLine" "frame" "LLampLine$Row;", Cond.fieldLink RX6 14 "LampLine" "tape" "LLampLine$Row;", Cond.fieldLink RX6 26 "LampLine" "heardAnswer" "LLampLine$Row;", Cond.methodLink RX6 114 yX3_copyFrom, Cond.instanceMethod yX3_copyFrom, Cond.selects RX3 yX3_copyFrom yX3_copyFrom, Cond.initialized RX3, Cond.code yX3_copyFrom cX3_copyFrom 3 none, Cond.fieldLink RX3 13 "LampLine$Row" "size" "I", Cond.fieldLink RX3 7 "LampLine$Row" "cells" "[I", Cond.methodLink RX6 111 yX3_cut, Cond.instanceMethod yX3_cut, Cond.selects RX3 yX3_cut yX3_cut, Cond.code yX3_cut cX3_cut 2 none, Cond.methodLink RX6 118 yX6_runFrame, Cond.instanceMethod yX6_runFrame, Cond.selects RX6 yX6_runFrame yX6_runFrame, Cond.initialized RX6, Cond.code yX6_runFrame cX6_runFrame 5 none, Cond.fieldLink RX6 160 "LampLine" "frameCount" "I", Cond.fieldLink RX6 34 "LampLine" "heard" "LLampLine$Packet;", Cond.fieldLink RX6 87 "LampLine" "lampCount" "I", Cond.fieldLink RX6 56 "LampLine" "lamps" "[LLampLine$Lamp;", Cond.fieldLink RX6 37 "LampLine" "reply" "LLampLine$Packet;"]
def wsX6_send_r2 : List Cond := [Cond.fieldLink RX6 23 "LampLine" "voice" "LLampLine$Row;", Cond.fieldLink RX6 43 "LampLine" "spoils" "LLampLine$Spoils;", Cond.methodLink RX6 99 yX3_size, Cond.instanceMethod yX3_size, Cond.selects RX3 yX3_size yX3_size, Cond.code yX3_size cX3_size 1 (some .int), Cond.methodLink RX6 126 yX3_at, Cond.instanceMethod yX3_at, Cond.selects RX3 yX3_at yX3_at, Cond.code yX3_at cX3_at 2 (some .int), Cond.methodLink RX6 246 yX2_readFrom, Cond.instanceMethod yX2_readFrom, Cond.selects RX2 yX2_readFrom yX2_readFrom, Cond.initialized RX2, Cond.code yX2_readFrom cX2_readFrom 4 (some .boolean), Cond.fieldLink RX2 20 "LampLine$Packet" "to" "J", Cond.fieldLink RX2 46 "LampLine$Packet" "from" "J", Cond.fieldLink RX2 49 "LampLine$Packet" "count" "I", Cond.fieldLink RX2 53 "LampLine$Packet" "kind" "I", Cond.fieldLink RX2 56 "LampLine$Packet" "messages" "I", Cond.fieldLink RX2 59 "LampLine$Packet" "part" "I", Cond.fieldLink RX2 62 "LampLine$Packet" "group" "I", Cond.fieldLink RX2 65 "LampLine$Packet" "matter" "I", Cond.fieldLink RX2 16 "LampLine$Packet" "data" "LLampLine$Row;"]
def wsX6_send_r3 : List Cond := [Cond.methodLink RX2 30 yX3_at, Cond.methodLink RX2 34 yX3_size, Cond.methodLink RX2 38 yX3_sum, Cond.instanceMethod yX3_sum, Cond.selects RX3 yX3_sum yX3_sum, Cond.code yX3_sum cX3_sum 5 (some .int), Cond.constant RX3 21 (65535), Cond.methodLink RX2 42 yX3_number, Cond.instanceMethod yX3_number, Cond.selects RX3 yX3_number yX3_number, Cond.code yX3_number cX3_number 6 (some .long), Cond.methodLink RX3 17 yX3_at, Cond.methodLink RX2 68 yX3_cut, Cond.methodLink RX2 71 yX3_put, Cond.instanceMethod yX3_put, Cond.selects RX3 yX3_put yX3_put, Cond.code yX3_put cX3_put 2 none, Cond.methodLink RX6 250 yX1_ripen, Cond.instanceMethod yX1_ripen, Cond.selects RX1 yX1_ripen yX1_ripen, Cond.initialized RX1, Cond.code yX1_ripen cX1_ripen 3 none, Cond.fieldLink RX1 28 "LampLine$Lamp" "isLater" "[Z", Cond.fieldLink RX1 20 "LampLine$Lamp" "text" "LLampLine$Row;"]
def wsX6_send_r4 : List Cond := [Cond.fieldLink RX1 24 "LampLine$Lamp" "laterTexts" "[LLampLine$Row;", Cond.fieldLink RX1 88 "LampLine$Lamp" "onTheWay" "I", Cond.fieldLink RX1 75 "LampLine$Lamp" "waiting" "I", Cond.methodLink RX1 84 yX3_copyFrom, Cond.methodLink RX6 253 yX1_shine, Cond.instanceMethod yX1_shine, Cond.selects RX1 yX1_shine yX1_shine, Cond.code yX1_shine cX1_shine 5 none, Cond.fieldLink RX1 46 "LampLine$Lamp" "address" "I", Cond.fieldLink RX1 49 "LampLine$Lamp" "litAt" "I", Cond.methodLink RX1 91 Lib.Math.min.name, Cond.static Lib.Math.min.name, Cond.initialized "java/lang/Math", Cond.code Lib.Math.min.name Lib.Math.min.code 2 (some .int), Cond.fieldLink RX1 9 "LampLine$Lamp" "levels" "[I", Cond.methodLink RX1 78 yX3_size, Cond.methodLink RX1 56 yX1_footprint, Cond.instanceMethod yX1_footprint, Cond.selects RX1 yX1_footprint yX1_footprint, Cond.code yX1_footprint cX1_footprint 1 (some .int), Cond.fieldLink RX1 40 "LampLine$Lamp" "width" "I", Cond.fieldLink RX1 32 "LampLine$Lamp" "mode" "I", Cond.methodLink RX1 97 yX3_at, Cond.methodLink RX6 260 yX1_isMeantBy]
def wsX6_send_r5 : List Cond := [Cond.instanceMethod yX1_isMeantBy, Cond.selects RX1 yX1_isMeantBy yX1_isMeantBy, Cond.code yX1_isMeantBy cX1_isMeantBy 3 (some .boolean), Cond.constantLong RX1 105 (4294967295), Cond.fieldLink RX1 36 "LampLine$Lamp" "id" "J", Cond.constant RX1 107 (65535), Cond.static yX6_restOf, Cond.code yX6_restOf cX6_restOf 2 (some .long), Cond.constantLong RX6 60 (4294967295), Cond.static yX6_makerOf, Cond.code yX6_makerOf cX6_makerOf 2 (some .int), Cond.methodLink RX6 263 yX1_speaksTo, Cond.instanceMethod yX1_speaksTo, Cond.selects RX1 yX1_speaksTo yX1_speaksTo, Cond.code yX1_speaksTo cX1_speaksTo 5 (some .boolean), Cond.methodLink RX1 113 yX1_speaksToSearch, Cond.instanceMethod yX1_speaksToSearch, Cond.selects RX1 yX1_speaksToSearch yX1_speaksToSearch, Cond.code yX1_speaksToSearch cX1_speaksToSearch 5 (some .boolean), Cond.fieldLink RX1 60 "LampLine$Lamp" "silent" "Z", Cond.methodLink RX1 131 yX3_number, Cond.methodLink RX1 135 yX0_write, Cond.static yX0_write, Cond.initialized RX0]
def wsX6_send_r6 : List Cond := [Cond.code yX0_write cX0_write 5 none, Cond.methodLink RX0 9 yX3_cut, Cond.methodLink RX0 17 yX3_put, Cond.methodLink RX0 20 yX3_sum, Cond.methodLink RX1 117 yX2_isCall, Cond.instanceMethod yX2_isCall, Cond.selects RX2 yX2_isCall yX2_isCall, Cond.code yX2_isCall cX2_isCall 1 (some .boolean), Cond.constantLong RX2 28 (4294967295), Cond.methodLink RX1 141 yX2_beginReply, Cond.instanceMethod yX2_beginReply, Cond.selects RX2 yX2_beginReply yX2_beginReply, Cond.code yX2_beginReply cX2_beginReply 4 none, Cond.methodLink RX1 145 yX3_putNumber, Cond.instanceMethod yX3_putNumber, Cond.selects RX3 yX3_putNumber yX3_putNumber, Cond.code yX3_putNumber cX3_putNumber 5 none, Cond.methodLink RX1 152 yX2_writeTo, Cond.instanceMethod yX2_writeTo, Cond.selects RX2 yX2_writeTo yX2_writeTo, Cond.code yX2_writeTo cX2_writeTo 4 none, Cond.methodLink RX2 74 yX3_putNumber, Cond.methodLink RX1 121 yX1_speaksToOrder, Cond.instanceMethod yX1_speaksToOrder]
def wsX6_send_r7 : List Cond := [Cond.selects RX1 yX1_speaksToOrder yX1_speaksToOrder, Cond.code yX1_speaksToOrder cX1_speaksToOrder 8 (some .boolean), Cond.fieldLink RX1 81 "LampLine$Lamp" "orders" "I", Cond.methodLink RX1 158 yX1_formRefusal, Cond.static yX1_formRefusal, Cond.code yX1_formRefusal cX1_formRefusal 4 (some .int), Cond.methodLink RX1 177 yX1_isKnown, Cond.static yX1_isKnown, Cond.code yX1_isKnown cX1_isKnown 2 (some .boolean), Cond.fieldLink RX1 180 "LampLine$Lamp" "MATTERS" "[I", Cond.methodLink RX1 162 yX1_valueRefusal, Cond.instanceMethod yX1_valueRefusal, Cond.selects RX1 yX1_valueRefusal yX1_valueRefusal, Cond.code yX1_valueRefusal cX1_valueRefusal 6 (some .int), Cond.fieldLink RX1 43 "LampLine$Lamp" "modes" "I", Cond.static yX6_fits, Cond.code yX6_fits cX6_fits 2 (some .boolean), Cond.methodLink RX1 166 yX2_refuse, Cond.instanceMethod yX2_refuse, Cond.selects RX2 yX2_refuse yX2_refuse, Cond.code yX2_refuse cX2_refuse 2 none, Cond.methodLink RX1 169 yX1_obey, Cond.instanceMethod yX1_obey, Cond.selects RX1 yX1_obey yX1_obey]
def wsX6_send_r8 : List Cond := [Cond.code yX1_obey cX1_obey 7 none, Cond.constantLong RX1 190 (3), Cond.fieldLink RX1 68 "LampLine$Lamp" "shows" "Z", Cond.methodLink RX1 173 yX1_tell, Cond.instanceMethod yX1_tell, Cond.selects RX1 yX1_tell yX1_tell, Cond.code yX1_tell cX1_tell 6 none, Cond.methodLink RX1 192 yX3_put, Cond.static yX6_flag, Cond.code yX6_flag cX6_flag 1 (some .int), Cond.methodLink RX6 267 yX3_join, Cond.instanceMethod yX3_join, Cond.selects RX3 yX3_join yX3_join, Cond.code yX3_join cX3_join 3 none, Cond.methodLink RX6 270 yX5_applyTo, Cond.instanceMethod yX5_applyTo, Cond.selects RX5 yX5_applyTo yX5_applyTo, Cond.initialized RX5, Cond.code yX5_applyTo cX5_applyTo 3 none, Cond.fieldLink RX5 16 "LampLine$Spoils" "size" "I", Cond.fieldLink RX5 9 "LampLine$Spoils" "places" "[I", Cond.fieldLink RX5 13 "LampLine$Spoils" "masks" "[I", Cond.methodLink RX5 23 yX3_flip, Cond.instanceMethod yX3_flip]
def wsX6_send_r9 : List Cond := [Cond.selects RX3 yX3_flip yX3_flip, Cond.code yX3_flip cX3_flip 3 none]
def wsX6_send : List Cond := .code yX6_send cX6_send 1 (some .int) :: ((wsX6_send_r1 ++ (wsX6_send_r2 ++ (wsX6_send_r3 ++ (wsX6_send_r4 ++ (wsX6_send_r5 ++ (wsX6_send_r6 ++ (wsX6_send_r7 ++ (wsX6_send_r8 ++ wsX6_send_r9)))))))) ++ wsX60 ++ wsX30 ++ wsX20 ++ wsX10 ++ wsX50)
def wsX6_answer : List Cond := .code yX6_answer cX6_answer 2 (some .int) :: ([.classLink RX6 121 "java/lang/IndexOutOfBoundsException", .initialized "java/lang/IndexOutOfBoundsException", .fieldLink RX6 26 "LampLine" "heardAnswer" "LLampLine$Row;", .methodLink RX6 99 yX3_size, .instanceMethod yX3_size, .selects RX3 yX3_size yX3_size, .initialized RX3, .code yX3_size cX3_size 1 (some .int), .fieldLink RX3 13 "LampLine$Row" "size" "I", .methodLink RX6 126 yX3_at, .instanceMethod yX3_at, .selects RX3 yX3_at yX3_at, .code yX3_at cX3_at 2 (some .int), .fieldLink RX3 7 "LampLine$Row" "cells" "[I"] ++ wsX60 ++ wsX30 ++ (vx_atS RX6 125 "java/lang/IndexOutOfBoundsException" ["java/lang/RuntimeException", "java/lang/Exception"]).filter goodWord)
def wsX6_beginQuestion : List Cond := .code yX6_beginQuestion cX6_beginQuestion 5 none :: ([.fieldLink RX6 273 "LampLine" "questionCount" "I", .fieldLink RX6 30 "LampLine" "question" "LLampLine$Packet;", .constantLong RX6 276 (140728898420737), .methodLink RX6 111 yX3_cut, .instanceMethod yX3_cut, .selects RX3 yX3_cut yX3_cut, .initialized RX3, .code yX3_cut cX3_cut 2 none, .fieldLink RX3 13 "LampLine$Row" "size" "I"] ++ wsX60 ++ wsX20 ++ wsX30)
def wsX6_isReplyFrom_r1 : List Cond := [Cond.fieldLink RX6 34 "LampLine" "heard" "LLampLine$Packet;", Cond.fieldLink RX6 26 "LampLine" "heardAnswer" "LLampLine$Row;", Cond.constantLong RX6 276 (140728898420737), Cond.fieldLink RX6 273 "LampLine" "questionCount" "I", Cond.methodLink RX6 246 yX2_readFrom, Cond.instanceMethod yX2_readFrom, Cond.selects RX2 yX2_readFrom yX2_readFrom, Cond.initialized RX2, Cond.code yX2_readFrom cX2_readFrom 4 (some .boolean), Cond.fieldLink RX2 20 "LampLine$Packet" "to" "J", Cond.fieldLink RX2 46 "LampLine$Packet" "from" "J", Cond.fieldLink RX2 49 "LampLine$Packet" "count" "I", Cond.fieldLink RX2 53 "LampLine$Packet" "kind" "I", Cond.fieldLink RX2 56 "LampLine$Packet" "messages" "I", Cond.fieldLink RX2 59 "LampLine$Packet" "part" "I", Cond.fieldLink RX2 62 "LampLine$Packet" "group" "I", Cond.fieldLink RX2 65 "LampLine$Packet" "matter" "I", Cond.fieldLink RX2 16 "LampLine$Packet" "data" "LLampLine$Row;", Cond.methodLink RX2 30 yX3_at, Cond.instanceMethod yX3_at, Cond.selects RX3 yX3_at yX3_at, Cond.initialized RX3, Cond.code yX3_at cX3_at 2 (some .int), Cond.fieldLink RX3 13 "LampLine$Row" "size" "I"]
def wsX6_isReplyFrom_r2 : List Cond := [Cond.fieldLink RX3 7 "LampLine$Row" "cells" "[I", Cond.methodLink RX2 34 yX3_size, Cond.instanceMethod yX3_size, Cond.selects RX3 yX3_size yX3_size, Cond.code yX3_size cX3_size 1 (some .int), Cond.methodLink RX2 38 yX3_sum, Cond.instanceMethod yX3_sum, Cond.selects RX3 yX3_sum yX3_sum, Cond.code yX3_sum cX3_sum 5 (some .int), Cond.constant RX3 21 (65535), Cond.methodLink RX2 42 yX3_number, Cond.instanceMethod yX3_number, Cond.selects RX3 yX3_number yX3_number, Cond.code yX3_number cX3_number 6 (some .long), Cond.methodLink RX3 17 yX3_at, Cond.methodLink RX2 68 yX3_cut, Cond.instanceMethod yX3_cut, Cond.selects RX3 yX3_cut yX3_cut, Cond.code yX3_cut cX3_cut 2 none, Cond.methodLink RX2 71 yX3_put, Cond.instanceMethod yX3_put, Cond.selects RX3 yX3_put yX3_put, Cond.code yX3_put cX3_put 2 none]
def wsX6_isReplyFrom : List Cond := .code yX6_isReplyFrom cX6_isReplyFrom 3 (some .boolean) :: ((wsX6_isReplyFrom_r1 ++ wsX6_isReplyFrom_r2) ++ wsX60 ++ wsX20 ++ wsX30)
def wsX6_ask_r1 : List Cond := [Cond.classLink RX6 62 "java/lang/IllegalArgumentException", Cond.initialized "java/lang/IllegalArgumentException", Cond.constant RX6 130 (65535), Cond.constantLong RX6 60 (4294967295), Cond.fieldLink RX6 30 "LampLine" "question" "LLampLine$Packet;", Cond.fieldLink RX6 14 "LampLine" "tape" "LLampLine$Row;", Cond.fieldLink RX6 18 "LampLine" "frame" "LLampLine$Row;", Cond.fieldLink RX6 26 "LampLine" "heardAnswer" "LLampLine$Row;", Cond.fieldLink RX6 34 "LampLine" "heard" "LLampLine$Packet;", Cond.methodLink RX6 77 yX6_joinedId, Cond.static yX6_joinedId, Cond.initialized RX6, Cond.code yX6_joinedId cX6_joinedId 3 (some .long), Cond.methodLink RX6 135 yX6_beginQuestion, Cond.instanceMethod yX6_beginQuestion, Cond.selects RX6 yX6_beginQuestion yX6_beginQuestion, Cond.code yX6_beginQuestion cX6_beginQuestion 5 none, Cond.fieldLink RX6 273 "LampLine" "questionCount" "I", Cond.constantLong RX6 276 (140728898420737), Cond.methodLink RX6 111 yX3_cut, Cond.instanceMethod yX3_cut, Cond.selects RX3 yX3_cut yX3_cut, Cond.initialized RX3, Cond.code yX3_cut cX3_cut 2 none]
def wsX6_ask_r2 : List Cond := [Cond.fieldLink RX3 13 "LampLine$Row" "size" "I", Cond.methodLink RX6 114 yX3_copyFrom, Cond.instanceMethod yX3_copyFrom, Cond.selects RX3 yX3_copyFrom yX3_copyFrom, Cond.code yX3_copyFrom cX3_copyFrom 3 none, Cond.fieldLink RX3 7 "LampLine$Row" "cells" "[I", Cond.methodLink RX6 145 yX2_writeTo, Cond.instanceMethod yX2_writeTo, Cond.selects RX2 yX2_writeTo yX2_writeTo, Cond.initialized RX2, Cond.code yX2_writeTo cX2_writeTo 4 none, Cond.fieldLink RX2 16 "LampLine$Packet" "data" "LLampLine$Row;", Cond.fieldLink RX2 20 "LampLine$Packet" "to" "J", Cond.fieldLink RX2 46 "LampLine$Packet" "from" "J", Cond.fieldLink RX2 49 "LampLine$Packet" "count" "I", Cond.fieldLink RX2 53 "LampLine$Packet" "kind" "I", Cond.fieldLink RX2 56 "LampLine$Packet" "messages" "I", Cond.fieldLink RX2 59 "LampLine$Packet" "part" "I", Cond.fieldLink RX2 62 "LampLine$Packet" "group" "I", Cond.fieldLink RX2 65 "LampLine$Packet" "matter" "I", Cond.methodLink RX2 34 yX3_size, Cond.instanceMethod yX3_size, Cond.selects RX3 yX3_size yX3_size, Cond.code yX3_size cX3_size 1 (some .int)]
def wsX6_ask_r3 : List Cond := [Cond.methodLink RX2 68 yX3_cut, Cond.methodLink RX2 71 yX3_put, Cond.instanceMethod yX3_put, Cond.selects RX3 yX3_put yX3_put, Cond.code yX3_put cX3_put 2 none, Cond.methodLink RX2 74 yX3_putNumber, Cond.instanceMethod yX3_putNumber, Cond.selects RX3 yX3_putNumber yX3_putNumber, Cond.code yX3_putNumber cX3_putNumber 5 none, Cond.methodLink RX2 30 yX3_at, Cond.instanceMethod yX3_at, Cond.selects RX3 yX3_at yX3_at, Cond.code yX3_at cX3_at 2 (some .int), Cond.methodLink RX2 38 yX3_sum, Cond.instanceMethod yX3_sum, Cond.selects RX3 yX3_sum yX3_sum, Cond.code yX3_sum cX3_sum 5 (some .int), Cond.constant RX3 21 (65535), Cond.methodLink RX6 118 yX6_runFrame, Cond.instanceMethod yX6_runFrame, Cond.selects RX6 yX6_runFrame yX6_runFrame, Cond.code yX6_runFrame cX6_runFrame 5 none, Cond.fieldLink RX6 160 "LampLine" "frameCount" "I", Cond.fieldLink RX6 87 "LampLine" "lampCount" "I"]
def wsX6_ask_r4 : List Cond := [Cond.fieldLink RX6 56 "LampLine" "lamps" "[LLampLine$Lamp;", Cond.fieldLink RX6 37 "LampLine" "reply" "LLampLine$Packet;", Cond.fieldLink RX6 23 "LampLine" "voice" "LLampLine$Row;", Cond.fieldLink RX6 43 "LampLine" "spoils" "LLampLine$Spoils;", Cond.methodLink RX6 99 yX3_size, Cond.methodLink RX6 126 yX3_at, Cond.methodLink RX6 246 yX2_readFrom, Cond.instanceMethod yX2_readFrom, Cond.selects RX2 yX2_readFrom yX2_readFrom, Cond.code yX2_readFrom cX2_readFrom 4 (some .boolean), Cond.methodLink RX2 42 yX3_number, Cond.instanceMethod yX3_number, Cond.selects RX3 yX3_number yX3_number, Cond.code yX3_number cX3_number 6 (some .long), Cond.methodLink RX3 17 yX3_at, Cond.methodLink RX6 250 yX1_ripen, Cond.instanceMethod yX1_ripen, Cond.selects RX1 yX1_ripen yX1_ripen, Cond.initialized RX1, Cond.code yX1_ripen cX1_ripen 3 none, Cond.fieldLink RX1 28 "LampLine$Lamp" "isLater" "[Z", Cond.fieldLink RX1 20 "LampLine$Lamp" "text" "LLampLine$Row;", Cond.fieldLink RX1 24 "LampLine$Lamp" "laterTexts" "[LLampLine$Row;", Cond.fieldLink RX1 88 "LampLine$Lamp" "onTheWay" "I"]
def wsX6_ask_r5 : List Cond := [Cond.fieldLink RX1 75 "LampLine$Lamp" "waiting" "I", Cond.methodLink RX1 84 yX3_copyFrom, Cond.methodLink RX6 253 yX1_shine, Cond.instanceMethod yX1_shine, Cond.selects RX1 yX1_shine yX1_shine, Cond.code yX1_shine cX1_shine 5 none, Cond.fieldLink RX1 46 "LampLine$Lamp" "address" "I", Cond.fieldLink RX1 49 "LampLine$Lamp" "litAt" "I", Cond.methodLink RX1 91 Lib.Math.min.name, Cond.static Lib.Math.min.name, Cond.initialized "java/lang/Math", Cond.code Lib.Math.min.name Lib.Math.min.code 2 (some .int), Cond.fieldLink RX1 9 "LampLine$Lamp" "levels" "[I", Cond.methodLink RX1 78 yX3_size, Cond.methodLink RX1 56 yX1_footprint, Cond.instanceMethod yX1_footprint, Cond.selects RX1 yX1_footprint yX1_footprint, Cond.code yX1_footprint cX1_footprint 1 (some .int), Cond.fieldLink RX1 40 "LampLine$Lamp" "width" "I", Cond.fieldLink RX1 32 "LampLine$Lamp" "mode" "I", Cond.methodLink RX1 97 yX3_at, Cond.methodLink RX6 260 yX1_isMeantBy, Cond.instanceMethod yX1_isMeantBy, Cond.selects RX1 yX1_isMeantBy yX1_isMeantBy]
def wsX6_ask_r6 : List Cond := [Cond.code yX1_isMeantBy cX1_isMeantBy 3 (some .boolean), Cond.constantLong RX1 105 (4294967295), Cond.fieldLink RX1 36 "LampLine$Lamp" "id" "J", Cond.constant RX1 107 (65535), Cond.static yX6_restOf, Cond.code yX6_restOf cX6_restOf 2 (some .long), Cond.static yX6_makerOf, Cond.code yX6_makerOf cX6_makerOf 2 (some .int), Cond.methodLink RX6 263 yX1_speaksTo, Cond.instanceMethod yX1_speaksTo, Cond.selects RX1 yX1_speaksTo yX1_speaksTo, Cond.code yX1_speaksTo cX1_speaksTo 5 (some .boolean), Cond.methodLink RX1 113 yX1_speaksToSearch, Cond.instanceMethod yX1_speaksToSearch, Cond.selects RX1 yX1_speaksToSearch yX1_speaksToSearch, Cond.code yX1_speaksToSearch cX1_speaksToSearch 5 (some .boolean), Cond.fieldLink RX1 60 "LampLine$Lamp" "silent" "Z", Cond.methodLink RX1 131 yX3_number, Cond.methodLink RX1 135 yX0_write, Cond.static yX0_write, Cond.initialized RX0, Cond.code yX0_write cX0_write 5 none, Cond.methodLink RX0 9 yX3_cut, Cond.methodLink RX0 17 yX3_put]
def wsX6_ask_r7 : List Cond := [Cond.methodLink RX0 20 yX3_sum, Cond.methodLink RX1 117 yX2_isCall, Cond.instanceMethod yX2_isCall, Cond.selects RX2 yX2_isCall yX2_isCall, Cond.code yX2_isCall cX2_isCall 1 (some .boolean), Cond.constantLong RX2 28 (4294967295), Cond.methodLink RX1 141 yX2_beginReply, Cond.instanceMethod yX2_beginReply, Cond.selects RX2 yX2_beginReply yX2_beginReply, Cond.code yX2_beginReply cX2_beginReply 4 none, Cond.methodLink RX1 145 yX3_putNumber, Cond.methodLink RX1 152 yX2_writeTo, Cond.methodLink RX1 121 yX1_speaksToOrder, Cond.instanceMethod yX1_speaksToOrder, Cond.selects RX1 yX1_speaksToOrder yX1_speaksToOrder, Cond.code yX1_speaksToOrder cX1_speaksToOrder 8 (some .boolean), Cond.fieldLink RX1 81 "LampLine$Lamp" "orders" "I", Cond.methodLink RX1 158 yX1_formRefusal, Cond.static yX1_formRefusal, Cond.code yX1_formRefusal cX1_formRefusal 4 (some .int), Cond.methodLink RX1 177 yX1_isKnown, Cond.static yX1_isKnown, Cond.code yX1_isKnown cX1_isKnown 2 (some .boolean), Cond.fieldLink RX1 180 "LampLine$Lamp" "MATTERS" "[I"]
def wsX6_ask_r8 : List Cond := [Cond.methodLink RX1 162 yX1_valueRefusal, Cond.instanceMethod yX1_valueRefusal, Cond.selects RX1 yX1_valueRefusal yX1_valueRefusal, Cond.code yX1_valueRefusal cX1_valueRefusal 6 (some .int), Cond.fieldLink RX1 43 "LampLine$Lamp" "modes" "I", Cond.static yX6_fits, Cond.code yX6_fits cX6_fits 2 (some .boolean), Cond.methodLink RX1 166 yX2_refuse, Cond.instanceMethod yX2_refuse, Cond.selects RX2 yX2_refuse yX2_refuse, Cond.code yX2_refuse cX2_refuse 2 none, Cond.methodLink RX1 169 yX1_obey, Cond.instanceMethod yX1_obey, Cond.selects RX1 yX1_obey yX1_obey, Cond.code yX1_obey cX1_obey 7 none, Cond.constantLong RX1 190 (3), Cond.fieldLink RX1 68 "LampLine$Lamp" "shows" "Z", Cond.methodLink RX1 173 yX1_tell, Cond.instanceMethod yX1_tell, Cond.selects RX1 yX1_tell yX1_tell, Cond.code yX1_tell cX1_tell 6 none, Cond.methodLink RX1 192 yX3_put, Cond.static yX6_flag, Cond.code yX6_flag cX6_flag 1 (some .int)]
def wsX6_ask_r9 : List Cond := [Cond.methodLink RX6 267 yX3_join, Cond.instanceMethod yX3_join, Cond.selects RX3 yX3_join yX3_join, Cond.code yX3_join cX3_join 3 none, Cond.methodLink RX6 270 yX5_applyTo, Cond.instanceMethod yX5_applyTo, Cond.selects RX5 yX5_applyTo yX5_applyTo, Cond.initialized RX5, Cond.code yX5_applyTo cX5_applyTo 3 none, Cond.fieldLink RX5 16 "LampLine$Spoils" "size" "I", Cond.fieldLink RX5 9 "LampLine$Spoils" "places" "[I", Cond.fieldLink RX5 13 "LampLine$Spoils" "masks" "[I", Cond.methodLink RX5 23 yX3_flip, Cond.instanceMethod yX3_flip, Cond.selects RX3 yX3_flip yX3_flip, Cond.code yX3_flip cX3_flip 3 none, Cond.methodLink RX6 148 yX6_isReplyFrom, Cond.instanceMethod yX6_isReplyFrom, Cond.selects RX6 yX6_isReplyFrom yX6_isReplyFrom, Cond.code yX6_isReplyFrom cX6_isReplyFrom 3 (some .boolean)]
def wsX6_ask : List Cond := .code yX6_ask cX6_ask 9 (some .int) :: ((wsX6_ask_r1 ++ (wsX6_ask_r2 ++ (wsX6_ask_r3 ++ (wsX6_ask_r4 ++ (wsX6_ask_r5 ++ (wsX6_ask_r6 ++ (wsX6_ask_r7 ++ (wsX6_ask_r8 ++ wsX6_ask_r9)))))))) ++ wsX60 ++ wsX20 ++ wsX30 ++ wsX10 ++ wsX50 ++ (vx_atS RX6 66 "java/lang/IllegalArgumentException" ["java/lang/RuntimeException", "java/lang/Exception"]).filter goodWord)
def wsX6_spoil : List Cond := .code yX6_spoil cX6_spoil 3 none :: ([.classLink RX6 62 "java/lang/IllegalArgumentException", .initialized "java/lang/IllegalArgumentException", .fieldLink RX6 43 "LampLine" "spoils" "LLampLine$Spoils;", .methodLink RX6 156 yX5_add, .instanceMethod yX5_add, .selects RX5 yX5_add yX5_add, .initialized RX5, .code yX5_add cX5_add 3 none, .fieldLink RX5 16 "LampLine$Spoils" "size" "I", .fieldLink RX5 9 "LampLine$Spoils" "places" "[I", .fieldLink RX5 13 "LampLine$Spoils" "masks" "[I", .methodLink RX5 20 yX5_dropFirst, .instanceMethod yX5_dropFirst, .selects RX5 yX5_dropFirst yX5_dropFirst, .code yX5_dropFirst cX5_dropFirst 2 none] ++ wsX60 ++ wsX50 ++ (vx_atS RX6 66 "java/lang/IllegalArgumentException" ["java/lang/RuntimeException", "java/lang/Exception"]).filter goodWord)
def wsX6_frames : List Cond := .code yX6_frames cX6_frames 1 (some .int) :: ([.fieldLink RX6 160 "LampLine" "frameCount" "I"] ++ wsX60)
def wsX6_lampAt : List Cond := .code yX6_lampAt cX6_lampAt 2 (some (.object "LampLine$Lamp")) :: ([.classLink RX6 121 "java/lang/IndexOutOfBoundsException", .initialized "java/lang/IndexOutOfBoundsException", .fieldLink RX6 87 "LampLine" "lampCount" "I", .fieldLink RX6 56 "LampLine" "lamps" "[LLampLine$Lamp;"] ++ wsX60 ++ (vx_atS RX6 125 "java/lang/IndexOutOfBoundsException" ["java/lang/RuntimeException", "java/lang/Exception"]).filter goodWord)
def wsX6_about_r1 : List Cond := [Cond.classLink RX6 121 "java/lang/IndexOutOfBoundsException", Cond.initialized "java/lang/IndexOutOfBoundsException", Cond.fieldLink RX6 160 "LampLine" "frameCount" "I", Cond.methodLink RX6 163 yX6_lampAt, Cond.instanceMethod yX6_lampAt, Cond.selects RX6 yX6_lampAt yX6_lampAt, Cond.initialized RX6, Cond.code yX6_lampAt cX6_lampAt 2 (some (.object "LampLine$Lamp")), Cond.fieldLink RX6 87 "LampLine" "lampCount" "I", Cond.fieldLink RX6 56 "LampLine" "lamps" "[LLampLine$Lamp;", Cond.methodLink RX6 169 yX1_fact, Cond.instanceMethod yX1_fact, Cond.selects RX1 yX1_fact yX1_fact, Cond.initialized RX1, Cond.code yX1_fact cX1_fact 3 (some .int), Cond.fieldLink RX1 36 "LampLine$Lamp" "id" "J", Cond.fieldLink RX1 32 "LampLine$Lamp" "mode" "I", Cond.fieldLink RX1 43 "LampLine$Lamp" "modes" "I", Cond.fieldLink RX1 46 "LampLine$Lamp" "address" "I", Cond.fieldLink RX1 60 "LampLine$Lamp" "silent" "Z", Cond.fieldLink RX1 68 "LampLine$Lamp" "shows" "Z", Cond.fieldLink RX1 75 "LampLine$Lamp" "waiting" "I", Cond.fieldLink RX1 20 "LampLine$Lamp" "text" "LLampLine$Row;", Cond.fieldLink RX1 81 "LampLine$Lamp" "orders" "I"]
def wsX6_about_r2 : List Cond := [Cond.static yX6_makerOf, Cond.code yX6_makerOf cX6_makerOf 2 (some .int), Cond.methodLink RX1 56 yX1_footprint, Cond.instanceMethod yX1_footprint, Cond.selects RX1 yX1_footprint yX1_footprint, Cond.code yX1_footprint cX1_footprint 1 (some .int), Cond.fieldLink RX1 40 "LampLine$Lamp" "width" "I", Cond.static yX6_flag, Cond.code yX6_flag cX6_flag 1 (some .int), Cond.methodLink RX1 71 yX1_isDark, Cond.instanceMethod yX1_isDark, Cond.selects RX1 yX1_isDark yX1_isDark, Cond.code yX1_isDark cX1_isDark 2 (some .boolean), Cond.fieldLink RX1 49 "LampLine$Lamp" "litAt" "I", Cond.methodLink RX1 78 yX3_size, Cond.instanceMethod yX3_size, Cond.selects RX3 yX3_size yX3_size, Cond.initialized RX3, Cond.code yX3_size cX3_size 1 (some .int), Cond.fieldLink RX3 13 "LampLine$Row" "size" "I"]
def wsX6_about : List Cond := .code yX6_about cX6_about 4 (some .int) :: ((wsX6_about_r1 ++ wsX6_about_r2) ++ wsX60 ++ wsX10 ++ wsX30 ++ (vx_atS RX6 125 "java/lang/IndexOutOfBoundsException" ["java/lang/RuntimeException", "java/lang/Exception"]).filter goodWord)
def wsX6_rest : List Cond := .code yX6_rest cX6_rest 2 (some .long) :: ([.methodLink RX6 163 yX6_lampAt, .instanceMethod yX6_lampAt, .selects RX6 yX6_lampAt yX6_lampAt, .initialized RX6, .code yX6_lampAt cX6_lampAt 2 (some (.object "LampLine$Lamp")), .classLink RX6 121 "java/lang/IndexOutOfBoundsException", .initialized "java/lang/IndexOutOfBoundsException", .fieldLink RX6 87 "LampLine" "lampCount" "I", .fieldLink RX6 56 "LampLine" "lamps" "[LLampLine$Lamp;", .methodLink RX6 177 yX6_restOf, .static yX6_restOf, .code yX6_restOf cX6_restOf 2 (some .long), .constantLong RX6 60 (4294967295)] ++ wsX10 ++ wsX60 ++ (vx_atS RX6 125 "java/lang/IndexOutOfBoundsException" ["java/lang/RuntimeException", "java/lang/Exception"]).filter goodWord)
def wsX6_level : List Cond := .code yX6_level cX6_level 4 (some .int) :: ([.classLink RX6 121 "java/lang/IndexOutOfBoundsException", .initialized "java/lang/IndexOutOfBoundsException", .methodLink RX6 163 yX6_lampAt, .instanceMethod yX6_lampAt, .selects RX6 yX6_lampAt yX6_lampAt, .initialized RX6, .code yX6_lampAt cX6_lampAt 2 (some (.object "LampLine$Lamp")), .fieldLink RX6 87 "LampLine" "lampCount" "I", .fieldLink RX6 56 "LampLine" "lamps" "[LLampLine$Lamp;", .methodLink RX6 181 yX1_footprint, .instanceMethod yX1_footprint, .selects RX1 yX1_footprint yX1_footprint, .initialized RX1, .code yX1_footprint cX1_footprint 1 (some .int), .fieldLink RX1 40 "LampLine$Lamp" "width" "I", .fieldLink RX1 32 "LampLine$Lamp" "mode" "I", .methodLink RX6 186 yX1_levelAt, .instanceMethod yX1_levelAt, .selects RX1 yX1_levelAt yX1_levelAt, .code yX1_levelAt cX1_levelAt 2 (some .int), .fieldLink RX1 9 "LampLine$Lamp" "levels" "[I"] ++ wsX60 ++ wsX10 ++ (vx_atS RX6 125 "java/lang/IndexOutOfBoundsException" ["java/lang/RuntimeException", "java/lang/Exception"]).filter goodWord)
def wsX6_label : List Cond := .code yX6_label cX6_label 4 (some .int) :: ([.classLink RX6 121 "java/lang/IndexOutOfBoundsException", .initialized "java/lang/IndexOutOfBoundsException", .methodLink RX6 163 yX6_lampAt, .instanceMethod yX6_lampAt, .selects RX6 yX6_lampAt yX6_lampAt, .initialized RX6, .code yX6_lampAt cX6_lampAt 2 (some (.object "LampLine$Lamp")), .fieldLink RX6 87 "LampLine" "lampCount" "I", .fieldLink RX6 56 "LampLine" "lamps" "[LLampLine$Lamp;", .methodLink RX6 99 yX3_size, .instanceMethod yX3_size, .selects RX3 yX3_size yX3_size, .initialized RX3, .code yX3_size cX3_size 1 (some .int), .fieldLink RX3 13 "LampLine$Row" "size" "I", .methodLink RX6 126 yX3_at, .instanceMethod yX3_at, .selects RX3 yX3_at yX3_at, .code yX3_at cX3_at 2 (some .int), .fieldLink RX3 7 "LampLine$Row" "cells" "[I"] ++ wsX10 ++ wsX60 ++ wsX30 ++ (vx_atS RX6 125 "java/lang/IndexOutOfBoundsException" ["java/lang/RuntimeException", "java/lang/Exception"]).filter goodWord)
def wsX6_silence : List Cond := .code yX6_silence cX6_silence 5 (some .int) :: ([.methodLink RX6 163 yX6_lampAt, .instanceMethod yX6_lampAt, .selects RX6 yX6_lampAt yX6_lampAt, .initialized RX6, .code yX6_lampAt cX6_lampAt 2 (some (.object "LampLine$Lamp")), .classLink RX6 121 "java/lang/IndexOutOfBoundsException", .initialized "java/lang/IndexOutOfBoundsException", .fieldLink RX6 87 "LampLine" "lampCount" "I", .fieldLink RX6 56 "LampLine" "lamps" "[LLampLine$Lamp;", .methodLink RX6 198 yX6_flag, .static yX6_flag, .code yX6_flag cX6_flag 1 (some .int)] ++ wsX10 ++ wsX60 ++ (vx_atS RX6 125 "java/lang/IndexOutOfBoundsException" ["java/lang/RuntimeException", "java/lang/Exception"]).filter goodWord)
def wsX6_writeSearch_r1 : List Cond := [Cond.fieldLink RX6 30 "LampLine" "question" "LLampLine$Packet;", Cond.fieldLink RX6 18 "LampLine" "frame" "LLampLine$Row;", Cond.methodLink RX6 135 yX6_beginQuestion, Cond.instanceMethod yX6_beginQuestion, Cond.selects RX6 yX6_beginQuestion yX6_beginQuestion, Cond.initialized RX6, Cond.code yX6_beginQuestion cX6_beginQuestion 5 none, Cond.fieldLink RX6 273 "LampLine" "questionCount" "I", Cond.constantLong RX6 276 (140728898420737), Cond.methodLink RX6 111 yX3_cut, Cond.instanceMethod yX3_cut, Cond.selects RX3 yX3_cut yX3_cut, Cond.initialized RX3, Cond.code yX3_cut cX3_cut 2 none, Cond.fieldLink RX3 13 "LampLine$Row" "size" "I", Cond.methodLink RX6 145 yX2_writeTo, Cond.instanceMethod yX2_writeTo, Cond.selects RX2 yX2_writeTo yX2_writeTo, Cond.initialized RX2, Cond.code yX2_writeTo cX2_writeTo 4 none, Cond.fieldLink RX2 16 "LampLine$Packet" "data" "LLampLine$Row;", Cond.fieldLink RX2 20 "LampLine$Packet" "to" "J", Cond.fieldLink RX2 46 "LampLine$Packet" "from" "J", Cond.fieldLink RX2 49 "LampLine$Packet" "count" "I"]
def wsX6_writeSearch_r2 : List Cond := [Cond.fieldLink RX2 53 "LampLine$Packet" "kind" "I", Cond.fieldLink RX2 56 "LampLine$Packet" "messages" "I", Cond.fieldLink RX2 59 "LampLine$Packet" "part" "I", Cond.fieldLink RX2 62 "LampLine$Packet" "group" "I", Cond.fieldLink RX2 65 "LampLine$Packet" "matter" "I", Cond.methodLink RX2 34 yX3_size, Cond.instanceMethod yX3_size, Cond.selects RX3 yX3_size yX3_size, Cond.code yX3_size cX3_size 1 (some .int), Cond.methodLink RX2 68 yX3_cut, Cond.methodLink RX2 71 yX3_put, Cond.instanceMethod yX3_put, Cond.selects RX3 yX3_put yX3_put, Cond.code yX3_put cX3_put 2 none, Cond.fieldLink RX3 7 "LampLine$Row" "cells" "[I", Cond.methodLink RX2 74 yX3_putNumber, Cond.instanceMethod yX3_putNumber, Cond.selects RX3 yX3_putNumber yX3_putNumber, Cond.code yX3_putNumber cX3_putNumber 5 none, Cond.methodLink RX2 30 yX3_at, Cond.instanceMethod yX3_at, Cond.selects RX3 yX3_at yX3_at, Cond.code yX3_at cX3_at 2 (some .int), Cond.methodLink RX2 38 yX3_sum]
def wsX6_writeSearch_r3 : List Cond := [Cond.instanceMethod yX3_sum, Cond.selects RX3 yX3_sum yX3_sum, Cond.code yX3_sum cX3_sum 5 (some .int), Cond.constant RX3 21 (65535)]
def wsX6_writeSearch : List Cond := .code yX6_writeSearch cX6_writeSearch 4 none :: ((wsX6_writeSearch_r1 ++ (wsX6_writeSearch_r2 ++ wsX6_writeSearch_r3)) ++ wsX60 ++ wsX20 ++ wsX30)
def wsX6_search_r1 : List Cond := [Cond.fieldLink RX6 50 "LampLine" "hunt" "LLampLine$Search;", Cond.constantLong RX6 205 (281474976710655), Cond.methodLink RX6 202 yX4_begin, Cond.instanceMethod yX4_begin, Cond.selects RX4 yX4_begin yX4_begin, Cond.initialized RX4, Cond.code yX4_begin cX4_begin 1 none, Cond.fieldLink RX4 21 "LampLine$Search" "begun" "Z", Cond.fieldLink RX4 25 "LampLine$Search" "depth" "I", Cond.fieldLink RX4 29 "LampLine$Search" "foundCount" "I", Cond.fieldLink RX4 32 "LampLine$Search" "steps" "I", Cond.constantLong RX4 35 (281474976710654), Cond.methodLink RX4 37 yX4_pile, Cond.instanceMethod yX4_pile, Cond.selects RX4 yX4_pile yX4_pile, Cond.code yX4_pile cX4_pile 5 none, Cond.fieldLink RX4 11 "LampLine$Search" "lows" "[J", Cond.fieldLink RX4 15 "LampLine$Search" "highs" "[J", Cond.methodLink RX6 207 yX6_writeSearch, Cond.instanceMethod yX6_writeSearch, Cond.selects RX6 yX6_writeSearch yX6_writeSearch, Cond.initialized RX6, Cond.code yX6_writeSearch cX6_writeSearch 4 none, Cond.fieldLink RX6 30 "LampLine" "question" "LLampLine$Packet;"]
def wsX6_search_r2 : List Cond := [Cond.fieldLink RX6 18 "LampLine" "frame" "LLampLine$Row;", Cond.methodLink RX6 135 yX6_beginQuestion, Cond.instanceMethod yX6_beginQuestion, Cond.selects RX6 yX6_beginQuestion yX6_beginQuestion, Cond.code yX6_beginQuestion cX6_beginQuestion 5 none, Cond.fieldLink RX6 273 "LampLine" "questionCount" "I", Cond.constantLong RX6 276 (140728898420737), Cond.methodLink RX6 111 yX3_cut, Cond.instanceMethod yX3_cut, Cond.selects RX3 yX3_cut yX3_cut, Cond.initialized RX3, Cond.code yX3_cut cX3_cut 2 none, Cond.fieldLink RX3 13 "LampLine$Row" "size" "I", Cond.methodLink RX6 145 yX2_writeTo, Cond.instanceMethod yX2_writeTo, Cond.selects RX2 yX2_writeTo yX2_writeTo, Cond.initialized RX2, Cond.code yX2_writeTo cX2_writeTo 4 none, Cond.fieldLink RX2 16 "LampLine$Packet" "data" "LLampLine$Row;", Cond.fieldLink RX2 20 "LampLine$Packet" "to" "J", Cond.fieldLink RX2 46 "LampLine$Packet" "from" "J", Cond.fieldLink RX2 49 "LampLine$Packet" "count" "I", Cond.fieldLink RX2 53 "LampLine$Packet" "kind" "I", Cond.fieldLink RX2 56 "LampLine$Packet" "messages" "I"]
def wsX6_search_r3 : List Cond := [Cond.fieldLink RX2 59 "LampLine$Packet" "part" "I", Cond.fieldLink RX2 62 "LampLine$Packet" "group" "I", Cond.fieldLink RX2 65 "LampLine$Packet" "matter" "I", Cond.methodLink RX2 34 yX3_size, Cond.instanceMethod yX3_size, Cond.selects RX3 yX3_size yX3_size, Cond.code yX3_size cX3_size 1 (some .int), Cond.methodLink RX2 68 yX3_cut, Cond.methodLink RX2 71 yX3_put, Cond.instanceMethod yX3_put, Cond.selects RX3 yX3_put yX3_put, Cond.code yX3_put cX3_put 2 none, Cond.fieldLink RX3 7 "LampLine$Row" "cells" "[I", Cond.methodLink RX2 74 yX3_putNumber, Cond.instanceMethod yX3_putNumber, Cond.selects RX3 yX3_putNumber yX3_putNumber, Cond.code yX3_putNumber cX3_putNumber 5 none, Cond.methodLink RX2 30 yX3_at, Cond.instanceMethod yX3_at, Cond.selects RX3 yX3_at yX3_at, Cond.code yX3_at cX3_at 2 (some .int), Cond.methodLink RX2 38 yX3_sum, Cond.instanceMethod yX3_sum, Cond.selects RX3 yX3_sum yX3_sum]
def wsX6_search_r4 : List Cond := [Cond.code yX3_sum cX3_sum 5 (some .int), Cond.constant RX3 21 (65535), Cond.methodLink RX6 118 yX6_runFrame, Cond.instanceMethod yX6_runFrame, Cond.selects RX6 yX6_runFrame yX6_runFrame, Cond.code yX6_runFrame cX6_runFrame 5 none, Cond.fieldLink RX6 160 "LampLine" "frameCount" "I", Cond.fieldLink RX6 26 "LampLine" "heardAnswer" "LLampLine$Row;", Cond.fieldLink RX6 34 "LampLine" "heard" "LLampLine$Packet;", Cond.fieldLink RX6 87 "LampLine" "lampCount" "I", Cond.fieldLink RX6 56 "LampLine" "lamps" "[LLampLine$Lamp;", Cond.fieldLink RX6 37 "LampLine" "reply" "LLampLine$Packet;", Cond.fieldLink RX6 23 "LampLine" "voice" "LLampLine$Row;", Cond.fieldLink RX6 43 "LampLine" "spoils" "LLampLine$Spoils;", Cond.methodLink RX6 99 yX3_size, Cond.methodLink RX6 126 yX3_at, Cond.methodLink RX6 246 yX2_readFrom, Cond.instanceMethod yX2_readFrom, Cond.selects RX2 yX2_readFrom yX2_readFrom, Cond.code yX2_readFrom cX2_readFrom 4 (some .boolean), Cond.methodLink RX2 42 yX3_number, Cond.instanceMethod yX3_number, Cond.selects RX3 yX3_number yX3_number, Cond.code yX3_number cX3_number 6 (some .long)]
def wsX6_search_r5 : List Cond := [Cond.methodLink RX3 17 yX3_at, Cond.methodLink RX6 250 yX1_ripen, Cond.instanceMethod yX1_ripen, Cond.selects RX1 yX1_ripen yX1_ripen, Cond.initialized RX1, Cond.code yX1_ripen cX1_ripen 3 none, Cond.fieldLink RX1 28 "LampLine$Lamp" "isLater" "[Z", Cond.fieldLink RX1 20 "LampLine$Lamp" "text" "LLampLine$Row;", Cond.fieldLink RX1 24 "LampLine$Lamp" "laterTexts" "[LLampLine$Row;", Cond.fieldLink RX1 88 "LampLine$Lamp" "onTheWay" "I", Cond.fieldLink RX1 75 "LampLine$Lamp" "waiting" "I", Cond.methodLink RX1 84 yX3_copyFrom, Cond.instanceMethod yX3_copyFrom, Cond.selects RX3 yX3_copyFrom yX3_copyFrom, Cond.code yX3_copyFrom cX3_copyFrom 3 none, Cond.methodLink RX6 253 yX1_shine, Cond.instanceMethod yX1_shine, Cond.selects RX1 yX1_shine yX1_shine, Cond.code yX1_shine cX1_shine 5 none, Cond.fieldLink RX1 46 "LampLine$Lamp" "address" "I", Cond.fieldLink RX1 49 "LampLine$Lamp" "litAt" "I", Cond.methodLink RX1 91 Lib.Math.min.name, Cond.static Lib.Math.min.name, Cond.initialized "java/lang/Math"]
def wsX6_search_r6 : List Cond := [Cond.code Lib.Math.min.name Lib.Math.min.code 2 (some .int), Cond.fieldLink RX1 9 "LampLine$Lamp" "levels" "[I", Cond.methodLink RX1 78 yX3_size, Cond.methodLink RX1 56 yX1_footprint, Cond.instanceMethod yX1_footprint, Cond.selects RX1 yX1_footprint yX1_footprint, Cond.code yX1_footprint cX1_footprint 1 (some .int), Cond.fieldLink RX1 40 "LampLine$Lamp" "width" "I", Cond.fieldLink RX1 32 "LampLine$Lamp" "mode" "I", Cond.methodLink RX1 97 yX3_at, Cond.methodLink RX6 260 yX1_isMeantBy, Cond.instanceMethod yX1_isMeantBy, Cond.selects RX1 yX1_isMeantBy yX1_isMeantBy, Cond.code yX1_isMeantBy cX1_isMeantBy 3 (some .boolean), Cond.constantLong RX1 105 (4294967295), Cond.fieldLink RX1 36 "LampLine$Lamp" "id" "J", Cond.constant RX1 107 (65535), Cond.static yX6_restOf, Cond.code yX6_restOf cX6_restOf 2 (some .long), Cond.constantLong RX6 60 (4294967295), Cond.static yX6_makerOf, Cond.code yX6_makerOf cX6_makerOf 2 (some .int), Cond.methodLink RX6 263 yX1_speaksTo, Cond.instanceMethod yX1_speaksTo]
def wsX6_search_r7 : List Cond := [Cond.selects RX1 yX1_speaksTo yX1_speaksTo, Cond.code yX1_speaksTo cX1_speaksTo 5 (some .boolean), Cond.methodLink RX1 113 yX1_speaksToSearch, Cond.instanceMethod yX1_speaksToSearch, Cond.selects RX1 yX1_speaksToSearch yX1_speaksToSearch, Cond.code yX1_speaksToSearch cX1_speaksToSearch 5 (some .boolean), Cond.fieldLink RX1 60 "LampLine$Lamp" "silent" "Z", Cond.methodLink RX1 131 yX3_number, Cond.methodLink RX1 135 yX0_write, Cond.static yX0_write, Cond.initialized RX0, Cond.code yX0_write cX0_write 5 none, Cond.methodLink RX0 9 yX3_cut, Cond.methodLink RX0 17 yX3_put, Cond.methodLink RX0 20 yX3_sum, Cond.methodLink RX1 117 yX2_isCall, Cond.instanceMethod yX2_isCall, Cond.selects RX2 yX2_isCall yX2_isCall, Cond.code yX2_isCall cX2_isCall 1 (some .boolean), Cond.constantLong RX2 28 (4294967295), Cond.methodLink RX1 141 yX2_beginReply, Cond.instanceMethod yX2_beginReply, Cond.selects RX2 yX2_beginReply yX2_beginReply, Cond.code yX2_beginReply cX2_beginReply 4 none]
def wsX6_search_r8 : List Cond := [Cond.methodLink RX1 145 yX3_putNumber, Cond.methodLink RX1 152 yX2_writeTo, Cond.methodLink RX1 121 yX1_speaksToOrder, Cond.instanceMethod yX1_speaksToOrder, Cond.selects RX1 yX1_speaksToOrder yX1_speaksToOrder, Cond.code yX1_speaksToOrder cX1_speaksToOrder 8 (some .boolean), Cond.fieldLink RX1 81 "LampLine$Lamp" "orders" "I", Cond.methodLink RX1 158 yX1_formRefusal, Cond.static yX1_formRefusal, Cond.code yX1_formRefusal cX1_formRefusal 4 (some .int), Cond.methodLink RX1 177 yX1_isKnown, Cond.static yX1_isKnown, Cond.code yX1_isKnown cX1_isKnown 2 (some .boolean), Cond.fieldLink RX1 180 "LampLine$Lamp" "MATTERS" "[I", Cond.methodLink RX1 162 yX1_valueRefusal, Cond.instanceMethod yX1_valueRefusal, Cond.selects RX1 yX1_valueRefusal yX1_valueRefusal, Cond.code yX1_valueRefusal cX1_valueRefusal 6 (some .int), Cond.fieldLink RX1 43 "LampLine$Lamp" "modes" "I", Cond.static yX6_fits, Cond.code yX6_fits cX6_fits 2 (some .boolean), Cond.methodLink RX1 166 yX2_refuse, Cond.instanceMethod yX2_refuse, Cond.selects RX2 yX2_refuse yX2_refuse]
def wsX6_search_r9 : List Cond := [Cond.code yX2_refuse cX2_refuse 2 none, Cond.methodLink RX1 169 yX1_obey, Cond.instanceMethod yX1_obey, Cond.selects RX1 yX1_obey yX1_obey, Cond.code yX1_obey cX1_obey 7 none, Cond.constantLong RX1 190 (3), Cond.fieldLink RX1 68 "LampLine$Lamp" "shows" "Z", Cond.methodLink RX1 173 yX1_tell, Cond.instanceMethod yX1_tell, Cond.selects RX1 yX1_tell yX1_tell, Cond.code yX1_tell cX1_tell 6 none, Cond.methodLink RX1 192 yX3_put, Cond.static yX6_flag, Cond.code yX6_flag cX6_flag 1 (some .int), Cond.methodLink RX6 267 yX3_join, Cond.instanceMethod yX3_join, Cond.selects RX3 yX3_join yX3_join, Cond.code yX3_join cX3_join 3 none, Cond.methodLink RX6 270 yX5_applyTo, Cond.instanceMethod yX5_applyTo, Cond.selects RX5 yX5_applyTo yX5_applyTo, Cond.initialized RX5, Cond.code yX5_applyTo cX5_applyTo 3 none, Cond.fieldLink RX5 16 "LampLine$Spoils" "size" "I"]
def wsX6_search_r10 : List Cond := [Cond.fieldLink RX5 9 "LampLine$Spoils" "places" "[I", Cond.fieldLink RX5 13 "LampLine$Spoils" "masks" "[I", Cond.methodLink RX5 23 yX3_flip, Cond.instanceMethod yX3_flip, Cond.selects RX3 yX3_flip yX3_flip, Cond.code yX3_flip cX3_flip 3 none]
def wsX6_search : List Cond := .code yX6_search cX6_search 1 (some .int) :: ((wsX6_search_r1 ++ (wsX6_search_r2 ++ (wsX6_search_r3 ++ (wsX6_search_r4 ++ (wsX6_search_r5 ++ (wsX6_search_r6 ++ (wsX6_search_r7 ++ (wsX6_search_r8 ++ (wsX6_search_r9 ++ wsX6_search_r10))))))))) ++ wsX60 ++ wsX40 ++ wsX20 ++ wsX30 ++ wsX10 ++ wsX50)
def wsX6_tryId_r1 : List Cond := [Cond.fieldLink RX6 26 "LampLine" "heardAnswer" "LLampLine$Row;", Cond.fieldLink RX6 34 "LampLine" "heard" "LLampLine$Packet;", Cond.fieldLink RX6 50 "LampLine" "hunt" "LLampLine$Search;", Cond.methodLink RX6 207 yX6_writeSearch, Cond.instanceMethod yX6_writeSearch, Cond.selects RX6 yX6_writeSearch yX6_writeSearch, Cond.initialized RX6, Cond.code yX6_writeSearch cX6_writeSearch 4 none, Cond.fieldLink RX6 30 "LampLine" "question" "LLampLine$Packet;", Cond.fieldLink RX6 18 "LampLine" "frame" "LLampLine$Row;", Cond.methodLink RX6 135 yX6_beginQuestion, Cond.instanceMethod yX6_beginQuestion, Cond.selects RX6 yX6_beginQuestion yX6_beginQuestion, Cond.code yX6_beginQuestion cX6_beginQuestion 5 none, Cond.fieldLink RX6 273 "LampLine" "questionCount" "I", Cond.constantLong RX6 276 (140728898420737), Cond.methodLink RX6 111 yX3_cut, Cond.instanceMethod yX3_cut, Cond.selects RX3 yX3_cut yX3_cut, Cond.initialized RX3, Cond.code yX3_cut cX3_cut 2 none, Cond.fieldLink RX3 13 "LampLine$Row" "size" "I", Cond.methodLink RX6 145 yX2_writeTo, Cond.instanceMethod yX2_writeTo]
def wsX6_tryId_r2 : List Cond := [Cond.selects RX2 yX2_writeTo yX2_writeTo, Cond.initialized RX2, Cond.code yX2_writeTo cX2_writeTo 4 none, Cond.fieldLink RX2 16 "LampLine$Packet" "data" "LLampLine$Row;", Cond.fieldLink RX2 20 "LampLine$Packet" "to" "J", Cond.fieldLink RX2 46 "LampLine$Packet" "from" "J", Cond.fieldLink RX2 49 "LampLine$Packet" "count" "I", Cond.fieldLink RX2 53 "LampLine$Packet" "kind" "I", Cond.fieldLink RX2 56 "LampLine$Packet" "messages" "I", Cond.fieldLink RX2 59 "LampLine$Packet" "part" "I", Cond.fieldLink RX2 62 "LampLine$Packet" "group" "I", Cond.fieldLink RX2 65 "LampLine$Packet" "matter" "I", Cond.methodLink RX2 34 yX3_size, Cond.instanceMethod yX3_size, Cond.selects RX3 yX3_size yX3_size, Cond.code yX3_size cX3_size 1 (some .int), Cond.methodLink RX2 68 yX3_cut, Cond.methodLink RX2 71 yX3_put, Cond.instanceMethod yX3_put, Cond.selects RX3 yX3_put yX3_put, Cond.code yX3_put cX3_put 2 none, Cond.fieldLink RX3 7 "LampLine$Row" "cells" "[I", Cond.methodLink RX2 74 yX3_putNumber, Cond.instanceMethod yX3_putNumber]
def wsX6_tryId_r3 : List Cond := [Cond.selects RX3 yX3_putNumber yX3_putNumber, Cond.code yX3_putNumber cX3_putNumber 5 none, Cond.methodLink RX2 30 yX3_at, Cond.instanceMethod yX3_at, Cond.selects RX3 yX3_at yX3_at, Cond.code yX3_at cX3_at 2 (some .int), Cond.methodLink RX2 38 yX3_sum, Cond.instanceMethod yX3_sum, Cond.selects RX3 yX3_sum yX3_sum, Cond.code yX3_sum cX3_sum 5 (some .int), Cond.constant RX3 21 (65535), Cond.methodLink RX6 118 yX6_runFrame, Cond.instanceMethod yX6_runFrame, Cond.selects RX6 yX6_runFrame yX6_runFrame, Cond.code yX6_runFrame cX6_runFrame 5 none, Cond.fieldLink RX6 160 "LampLine" "frameCount" "I", Cond.fieldLink RX6 87 "LampLine" "lampCount" "I", Cond.fieldLink RX6 56 "LampLine" "lamps" "[LLampLine$Lamp;", Cond.fieldLink RX6 37 "LampLine" "reply" "LLampLine$Packet;", Cond.fieldLink RX6 23 "LampLine" "voice" "LLampLine$Row;", Cond.fieldLink RX6 43 "LampLine" "spoils" "LLampLine$Spoils;", Cond.methodLink RX6 99 yX3_size, Cond.methodLink RX6 126 yX3_at, Cond.methodLink RX6 246 yX2_readFrom]
def wsX6_tryId_r4 : List Cond := [Cond.instanceMethod yX2_readFrom, Cond.selects RX2 yX2_readFrom yX2_readFrom, Cond.code yX2_readFrom cX2_readFrom 4 (some .boolean), Cond.methodLink RX2 42 yX3_number, Cond.instanceMethod yX3_number, Cond.selects RX3 yX3_number yX3_number, Cond.code yX3_number cX3_number 6 (some .long), Cond.methodLink RX3 17 yX3_at, Cond.methodLink RX6 250 yX1_ripen, Cond.instanceMethod yX1_ripen, Cond.selects RX1 yX1_ripen yX1_ripen, Cond.initialized RX1, Cond.code yX1_ripen cX1_ripen 3 none, Cond.fieldLink RX1 28 "LampLine$Lamp" "isLater" "[Z", Cond.fieldLink RX1 20 "LampLine$Lamp" "text" "LLampLine$Row;", Cond.fieldLink RX1 24 "LampLine$Lamp" "laterTexts" "[LLampLine$Row;", Cond.fieldLink RX1 88 "LampLine$Lamp" "onTheWay" "I", Cond.fieldLink RX1 75 "LampLine$Lamp" "waiting" "I", Cond.methodLink RX1 84 yX3_copyFrom, Cond.instanceMethod yX3_copyFrom, Cond.selects RX3 yX3_copyFrom yX3_copyFrom, Cond.code yX3_copyFrom cX3_copyFrom 3 none, Cond.methodLink RX6 253 yX1_shine, Cond.instanceMethod yX1_shine]
def wsX6_tryId_r5 : List Cond := [Cond.selects RX1 yX1_shine yX1_shine, Cond.code yX1_shine cX1_shine 5 none, Cond.fieldLink RX1 46 "LampLine$Lamp" "address" "I", Cond.fieldLink RX1 49 "LampLine$Lamp" "litAt" "I", Cond.methodLink RX1 91 Lib.Math.min.name, Cond.static Lib.Math.min.name, Cond.initialized "java/lang/Math", Cond.code Lib.Math.min.name Lib.Math.min.code 2 (some .int), Cond.fieldLink RX1 9 "LampLine$Lamp" "levels" "[I", Cond.methodLink RX1 78 yX3_size, Cond.methodLink RX1 56 yX1_footprint, Cond.instanceMethod yX1_footprint, Cond.selects RX1 yX1_footprint yX1_footprint, Cond.code yX1_footprint cX1_footprint 1 (some .int), Cond.fieldLink RX1 40 "LampLine$Lamp" "width" "I", Cond.fieldLink RX1 32 "LampLine$Lamp" "mode" "I", Cond.methodLink RX1 97 yX3_at, Cond.methodLink RX6 260 yX1_isMeantBy, Cond.instanceMethod yX1_isMeantBy, Cond.selects RX1 yX1_isMeantBy yX1_isMeantBy, Cond.code yX1_isMeantBy cX1_isMeantBy 3 (some .boolean), Cond.constantLong RX1 105 (4294967295), Cond.fieldLink RX1 36 "LampLine$Lamp" "id" "J", Cond.constant RX1 107 (65535)]
def wsX6_tryId_r6 : List Cond := [Cond.static yX6_restOf, Cond.code yX6_restOf cX6_restOf 2 (some .long), Cond.constantLong RX6 60 (4294967295), Cond.static yX6_makerOf, Cond.code yX6_makerOf cX6_makerOf 2 (some .int), Cond.methodLink RX6 263 yX1_speaksTo, Cond.instanceMethod yX1_speaksTo, Cond.selects RX1 yX1_speaksTo yX1_speaksTo, Cond.code yX1_speaksTo cX1_speaksTo 5 (some .boolean), Cond.methodLink RX1 113 yX1_speaksToSearch, Cond.instanceMethod yX1_speaksToSearch, Cond.selects RX1 yX1_speaksToSearch yX1_speaksToSearch, Cond.code yX1_speaksToSearch cX1_speaksToSearch 5 (some .boolean), Cond.fieldLink RX1 60 "LampLine$Lamp" "silent" "Z", Cond.methodLink RX1 131 yX3_number, Cond.methodLink RX1 135 yX0_write, Cond.static yX0_write, Cond.initialized RX0, Cond.code yX0_write cX0_write 5 none, Cond.methodLink RX0 9 yX3_cut, Cond.methodLink RX0 17 yX3_put, Cond.methodLink RX0 20 yX3_sum, Cond.methodLink RX1 117 yX2_isCall, Cond.instanceMethod yX2_isCall]
def wsX6_tryId_r7 : List Cond := [Cond.selects RX2 yX2_isCall yX2_isCall, Cond.code yX2_isCall cX2_isCall 1 (some .boolean), Cond.constantLong RX2 28 (4294967295), Cond.methodLink RX1 141 yX2_beginReply, Cond.instanceMethod yX2_beginReply, Cond.selects RX2 yX2_beginReply yX2_beginReply, Cond.code yX2_beginReply cX2_beginReply 4 none, Cond.methodLink RX1 145 yX3_putNumber, Cond.methodLink RX1 152 yX2_writeTo, Cond.methodLink RX1 121 yX1_speaksToOrder, Cond.instanceMethod yX1_speaksToOrder, Cond.selects RX1 yX1_speaksToOrder yX1_speaksToOrder, Cond.code yX1_speaksToOrder cX1_speaksToOrder 8 (some .boolean), Cond.fieldLink RX1 81 "LampLine$Lamp" "orders" "I", Cond.methodLink RX1 158 yX1_formRefusal, Cond.static yX1_formRefusal, Cond.code yX1_formRefusal cX1_formRefusal 4 (some .int), Cond.methodLink RX1 177 yX1_isKnown, Cond.static yX1_isKnown, Cond.code yX1_isKnown cX1_isKnown 2 (some .boolean), Cond.fieldLink RX1 180 "LampLine$Lamp" "MATTERS" "[I", Cond.methodLink RX1 162 yX1_valueRefusal, Cond.instanceMethod yX1_valueRefusal, Cond.selects RX1 yX1_valueRefusal yX1_valueRefusal]
def wsX6_tryId_r8 : List Cond := [Cond.code yX1_valueRefusal cX1_valueRefusal 6 (some .int), Cond.fieldLink RX1 43 "LampLine$Lamp" "modes" "I", Cond.static yX6_fits, Cond.code yX6_fits cX6_fits 2 (some .boolean), Cond.methodLink RX1 166 yX2_refuse, Cond.instanceMethod yX2_refuse, Cond.selects RX2 yX2_refuse yX2_refuse, Cond.code yX2_refuse cX2_refuse 2 none, Cond.methodLink RX1 169 yX1_obey, Cond.instanceMethod yX1_obey, Cond.selects RX1 yX1_obey yX1_obey, Cond.code yX1_obey cX1_obey 7 none, Cond.constantLong RX1 190 (3), Cond.fieldLink RX1 68 "LampLine$Lamp" "shows" "Z", Cond.methodLink RX1 173 yX1_tell, Cond.instanceMethod yX1_tell, Cond.selects RX1 yX1_tell yX1_tell, Cond.code yX1_tell cX1_tell 6 none, Cond.methodLink RX1 192 yX3_put, Cond.static yX6_flag, Cond.code yX6_flag cX6_flag 1 (some .int), Cond.methodLink RX6 267 yX3_join, Cond.instanceMethod yX3_join, Cond.selects RX3 yX3_join yX3_join]
def wsX6_tryId_r9 : List Cond := [Cond.code yX3_join cX3_join 3 none, Cond.methodLink RX6 270 yX5_applyTo, Cond.instanceMethod yX5_applyTo, Cond.selects RX5 yX5_applyTo yX5_applyTo, Cond.initialized RX5, Cond.code yX5_applyTo cX5_applyTo 3 none, Cond.fieldLink RX5 16 "LampLine$Spoils" "size" "I", Cond.fieldLink RX5 9 "LampLine$Spoils" "places" "[I", Cond.fieldLink RX5 13 "LampLine$Spoils" "masks" "[I", Cond.methodLink RX5 23 yX3_flip, Cond.instanceMethod yX3_flip, Cond.selects RX3 yX3_flip yX3_flip, Cond.code yX3_flip cX3_flip 3 none, Cond.methodLink RX6 148 yX6_isReplyFrom, Cond.instanceMethod yX6_isReplyFrom, Cond.selects RX6 yX6_isReplyFrom yX6_isReplyFrom, Cond.code yX6_isReplyFrom cX6_isReplyFrom 3 (some .boolean), Cond.methodLink RX6 316 yX4_keepFound, Cond.instanceMethod yX4_keepFound, Cond.selects RX4 yX4_keepFound yX4_keepFound, Cond.initialized RX4, Cond.code yX4_keepFound cX4_keepFound 3 none, Cond.fieldLink RX4 29 "LampLine$Search" "foundCount" "I", Cond.fieldLink RX4 18 "LampLine$Search" "foundIds" "[J"]
def wsX6_tryId_r10 : List Cond := [Cond.methodLink RX4 43 yX4_hasFound, Cond.instanceMethod yX4_hasFound, Cond.selects RX4 yX4_hasFound yX4_hasFound, Cond.code yX4_hasFound cX4_hasFound 4 (some .boolean)]
def wsX6_tryId : List Cond := .code yX6_tryId cX6_tryId 3 (some .int) :: ((wsX6_tryId_r1 ++ (wsX6_tryId_r2 ++ (wsX6_tryId_r3 ++ (wsX6_tryId_r4 ++ (wsX6_tryId_r5 ++ (wsX6_tryId_r6 ++ (wsX6_tryId_r7 ++ (wsX6_tryId_r8 ++ (wsX6_tryId_r9 ++ wsX6_tryId_r10))))))))) ++ wsX60 ++ wsX20 ++ wsX30 ++ wsX10 ++ wsX50 ++ wsX40)
def wsX6_writeBranchSearch_r1 : List Cond := [Cond.constantLong RX6 205 (281474976710655), Cond.fieldLink RX6 30 "LampLine" "question" "LLampLine$Packet;", Cond.fieldLink RX6 18 "LampLine" "frame" "LLampLine$Row;", Cond.methodLink RX6 135 yX6_beginQuestion, Cond.instanceMethod yX6_beginQuestion, Cond.selects RX6 yX6_beginQuestion yX6_beginQuestion, Cond.initialized RX6, Cond.code yX6_beginQuestion cX6_beginQuestion 5 none, Cond.fieldLink RX6 273 "LampLine" "questionCount" "I", Cond.constantLong RX6 276 (140728898420737), Cond.methodLink RX6 111 yX3_cut, Cond.instanceMethod yX3_cut, Cond.selects RX3 yX3_cut yX3_cut, Cond.initialized RX3, Cond.code yX3_cut cX3_cut 2 none, Cond.fieldLink RX3 13 "LampLine$Row" "size" "I", Cond.methodLink RX6 105 yX3_putNumber, Cond.instanceMethod yX3_putNumber, Cond.selects RX3 yX3_putNumber yX3_putNumber, Cond.code yX3_putNumber cX3_putNumber 5 none, Cond.fieldLink RX3 7 "LampLine$Row" "cells" "[I", Cond.methodLink RX6 145 yX2_writeTo, Cond.instanceMethod yX2_writeTo, Cond.selects RX2 yX2_writeTo yX2_writeTo]
def wsX6_writeBranchSearch_r2 : List Cond := [Cond.initialized RX2, Cond.code yX2_writeTo cX2_writeTo 4 none, Cond.fieldLink RX2 16 "LampLine$Packet" "data" "LLampLine$Row;", Cond.fieldLink RX2 20 "LampLine$Packet" "to" "J", Cond.fieldLink RX2 46 "LampLine$Packet" "from" "J", Cond.fieldLink RX2 49 "LampLine$Packet" "count" "I", Cond.fieldLink RX2 53 "LampLine$Packet" "kind" "I", Cond.fieldLink RX2 56 "LampLine$Packet" "messages" "I", Cond.fieldLink RX2 59 "LampLine$Packet" "part" "I", Cond.fieldLink RX2 62 "LampLine$Packet" "group" "I", Cond.fieldLink RX2 65 "LampLine$Packet" "matter" "I", Cond.methodLink RX2 34 yX3_size, Cond.instanceMethod yX3_size, Cond.selects RX3 yX3_size yX3_size, Cond.code yX3_size cX3_size 1 (some .int), Cond.methodLink RX2 68 yX3_cut, Cond.methodLink RX2 71 yX3_put, Cond.instanceMethod yX3_put, Cond.selects RX3 yX3_put yX3_put, Cond.code yX3_put cX3_put 2 none, Cond.methodLink RX2 74 yX3_putNumber, Cond.methodLink RX2 30 yX3_at, Cond.instanceMethod yX3_at, Cond.selects RX3 yX3_at yX3_at]
def wsX6_writeBranchSearch_r3 : List Cond := [Cond.code yX3_at cX3_at 2 (some .int), Cond.methodLink RX2 38 yX3_sum, Cond.instanceMethod yX3_sum, Cond.selects RX3 yX3_sum yX3_sum, Cond.code yX3_sum cX3_sum 5 (some .int), Cond.constant RX3 21 (65535)]
def wsX6_writeBranchSearch : List Cond := .code yX6_writeBranchSearch cX6_writeBranchSearch 5 none :: ((wsX6_writeBranchSearch_r1 ++ (wsX6_writeBranchSearch_r2 ++ wsX6_writeBranchSearch_r3)) ++ wsX60 ++ wsX20 ++ wsX30)
def wsX6_takeStep_r1 : List Cond := [Cond.fieldLink RX6 50 "LampLine" "hunt" "LLampLine$Search;", Cond.constantLong RX6 60 (4294967295), Cond.fieldLink RX6 26 "LampLine" "heardAnswer" "LLampLine$Row;", Cond.methodLink RX6 237 yX4_latestLow, Cond.instanceMethod yX4_latestLow, Cond.selects RX4 yX4_latestLow yX4_latestLow, Cond.initialized RX4, Cond.code yX4_latestLow cX4_latestLow 1 (some .long), Cond.fieldLink RX4 25 "LampLine$Search" "depth" "I", Cond.fieldLink RX4 11 "LampLine$Search" "lows" "[J", Cond.constantLong RX4 41 (-1), Cond.methodLink RX6 241 yX4_latestHigh, Cond.instanceMethod yX4_latestHigh, Cond.selects RX4 yX4_latestHigh yX4_latestHigh, Cond.code yX4_latestHigh cX4_latestHigh 1 (some .long), Cond.fieldLink RX4 15 "LampLine$Search" "highs" "[J", Cond.methodLink RX6 293 yX4_takeLatest, Cond.instanceMethod yX4_takeLatest, Cond.selects RX4 yX4_takeLatest yX4_takeLatest, Cond.code yX4_takeLatest cX4_takeLatest 1 none, Cond.fieldLink RX4 32 "LampLine$Search" "steps" "I", Cond.methodLink RX6 177 yX6_restOf, Cond.static yX6_restOf, Cond.initialized RX6]
def wsX6_takeStep_r2 : List Cond := [Cond.code yX6_restOf cX6_restOf 2 (some .long), Cond.methodLink RX6 296 yX6_tryId, Cond.instanceMethod yX6_tryId, Cond.selects RX6 yX6_tryId yX6_tryId, Cond.code yX6_tryId cX6_tryId 3 (some .int), Cond.fieldLink RX6 34 "LampLine" "heard" "LLampLine$Packet;", Cond.methodLink RX6 207 yX6_writeSearch, Cond.instanceMethod yX6_writeSearch, Cond.selects RX6 yX6_writeSearch yX6_writeSearch, Cond.code yX6_writeSearch cX6_writeSearch 4 none, Cond.fieldLink RX6 30 "LampLine" "question" "LLampLine$Packet;", Cond.fieldLink RX6 18 "LampLine" "frame" "LLampLine$Row;", Cond.methodLink RX6 135 yX6_beginQuestion, Cond.instanceMethod yX6_beginQuestion, Cond.selects RX6 yX6_beginQuestion yX6_beginQuestion, Cond.code yX6_beginQuestion cX6_beginQuestion 5 none, Cond.fieldLink RX6 273 "LampLine" "questionCount" "I", Cond.constantLong RX6 276 (140728898420737), Cond.methodLink RX6 111 yX3_cut, Cond.instanceMethod yX3_cut, Cond.selects RX3 yX3_cut yX3_cut, Cond.initialized RX3, Cond.code yX3_cut cX3_cut 2 none, Cond.fieldLink RX3 13 "LampLine$Row" "size" "I"]
def wsX6_takeStep_r3 : List Cond := [Cond.methodLink RX6 145 yX2_writeTo, Cond.instanceMethod yX2_writeTo, Cond.selects RX2 yX2_writeTo yX2_writeTo, Cond.initialized RX2, Cond.code yX2_writeTo cX2_writeTo 4 none, Cond.fieldLink RX2 16 "LampLine$Packet" "data" "LLampLine$Row;", Cond.fieldLink RX2 20 "LampLine$Packet" "to" "J", Cond.fieldLink RX2 46 "LampLine$Packet" "from" "J", Cond.fieldLink RX2 49 "LampLine$Packet" "count" "I", Cond.fieldLink RX2 53 "LampLine$Packet" "kind" "I", Cond.fieldLink RX2 56 "LampLine$Packet" "messages" "I", Cond.fieldLink RX2 59 "LampLine$Packet" "part" "I", Cond.fieldLink RX2 62 "LampLine$Packet" "group" "I", Cond.fieldLink RX2 65 "LampLine$Packet" "matter" "I", Cond.methodLink RX2 34 yX3_size, Cond.instanceMethod yX3_size, Cond.selects RX3 yX3_size yX3_size, Cond.code yX3_size cX3_size 1 (some .int), Cond.methodLink RX2 68 yX3_cut, Cond.methodLink RX2 71 yX3_put, Cond.instanceMethod yX3_put, Cond.selects RX3 yX3_put yX3_put, Cond.code yX3_put cX3_put 2 none, Cond.fieldLink RX3 7 "LampLine$Row" "cells" "[I"]
def wsX6_takeStep_r4 : List Cond := [Cond.methodLink RX2 74 yX3_putNumber, Cond.instanceMethod yX3_putNumber, Cond.selects RX3 yX3_putNumber yX3_putNumber, Cond.code yX3_putNumber cX3_putNumber 5 none, Cond.methodLink RX2 30 yX3_at, Cond.instanceMethod yX3_at, Cond.selects RX3 yX3_at yX3_at, Cond.code yX3_at cX3_at 2 (some .int), Cond.methodLink RX2 38 yX3_sum, Cond.instanceMethod yX3_sum, Cond.selects RX3 yX3_sum yX3_sum, Cond.code yX3_sum cX3_sum 5 (some .int), Cond.constant RX3 21 (65535), Cond.methodLink RX6 118 yX6_runFrame, Cond.instanceMethod yX6_runFrame, Cond.selects RX6 yX6_runFrame yX6_runFrame, Cond.code yX6_runFrame cX6_runFrame 5 none, Cond.fieldLink RX6 160 "LampLine" "frameCount" "I", Cond.fieldLink RX6 87 "LampLine" "lampCount" "I", Cond.fieldLink RX6 56 "LampLine" "lamps" "[LLampLine$Lamp;", Cond.fieldLink RX6 37 "LampLine" "reply" "LLampLine$Packet;", Cond.fieldLink RX6 23 "LampLine" "voice" "LLampLine$Row;", Cond.fieldLink RX6 43 "LampLine" "spoils" "LLampLine$Spoils;", Cond.methodLink RX6 99 yX3_size]
def wsX6_takeStep_r5 : List Cond := [Cond.methodLink RX6 126 yX3_at, Cond.methodLink RX6 246 yX2_readFrom, Cond.instanceMethod yX2_readFrom, Cond.selects RX2 yX2_readFrom yX2_readFrom, Cond.code yX2_readFrom cX2_readFrom 4 (some .boolean), Cond.methodLink RX2 42 yX3_number, Cond.instanceMethod yX3_number, Cond.selects RX3 yX3_number yX3_number, Cond.code yX3_number cX3_number 6 (some .long), Cond.methodLink RX3 17 yX3_at, Cond.methodLink RX6 250 yX1_ripen, Cond.instanceMethod yX1_ripen, Cond.selects RX1 yX1_ripen yX1_ripen, Cond.initialized RX1, Cond.code yX1_ripen cX1_ripen 3 none, Cond.fieldLink RX1 28 "LampLine$Lamp" "isLater" "[Z", Cond.fieldLink RX1 20 "LampLine$Lamp" "text" "LLampLine$Row;", Cond.fieldLink RX1 24 "LampLine$Lamp" "laterTexts" "[LLampLine$Row;", Cond.fieldLink RX1 88 "LampLine$Lamp" "onTheWay" "I", Cond.fieldLink RX1 75 "LampLine$Lamp" "waiting" "I", Cond.methodLink RX1 84 yX3_copyFrom, Cond.instanceMethod yX3_copyFrom, Cond.selects RX3 yX3_copyFrom yX3_copyFrom, Cond.code yX3_copyFrom cX3_copyFrom 3 none]
def wsX6_takeStep_r6 : List Cond := [Cond.methodLink RX6 253 yX1_shine, Cond.instanceMethod yX1_shine, Cond.selects RX1 yX1_shine yX1_shine, Cond.code yX1_shine cX1_shine 5 none, Cond.fieldLink RX1 46 "LampLine$Lamp" "address" "I", Cond.fieldLink RX1 49 "LampLine$Lamp" "litAt" "I", Cond.methodLink RX1 91 Lib.Math.min.name, Cond.static Lib.Math.min.name, Cond.initialized "java/lang/Math", Cond.code Lib.Math.min.name Lib.Math.min.code 2 (some .int), Cond.fieldLink RX1 9 "LampLine$Lamp" "levels" "[I", Cond.methodLink RX1 78 yX3_size, Cond.methodLink RX1 56 yX1_footprint, Cond.instanceMethod yX1_footprint, Cond.selects RX1 yX1_footprint yX1_footprint, Cond.code yX1_footprint cX1_footprint 1 (some .int), Cond.fieldLink RX1 40 "LampLine$Lamp" "width" "I", Cond.fieldLink RX1 32 "LampLine$Lamp" "mode" "I", Cond.methodLink RX1 97 yX3_at, Cond.methodLink RX6 260 yX1_isMeantBy, Cond.instanceMethod yX1_isMeantBy, Cond.selects RX1 yX1_isMeantBy yX1_isMeantBy, Cond.code yX1_isMeantBy cX1_isMeantBy 3 (some .boolean), Cond.constantLong RX1 105 (4294967295)]
def wsX6_takeStep_r7 : List Cond := [Cond.fieldLink RX1 36 "LampLine$Lamp" "id" "J", Cond.constant RX1 107 (65535), Cond.static yX6_makerOf, Cond.code yX6_makerOf cX6_makerOf 2 (some .int), Cond.methodLink RX6 263 yX1_speaksTo, Cond.instanceMethod yX1_speaksTo, Cond.selects RX1 yX1_speaksTo yX1_speaksTo, Cond.code yX1_speaksTo cX1_speaksTo 5 (some .boolean), Cond.methodLink RX1 113 yX1_speaksToSearch, Cond.instanceMethod yX1_speaksToSearch, Cond.selects RX1 yX1_speaksToSearch yX1_speaksToSearch, Cond.code yX1_speaksToSearch cX1_speaksToSearch 5 (some .boolean), Cond.fieldLink RX1 60 "LampLine$Lamp" "silent" "Z", Cond.methodLink RX1 131 yX3_number, Cond.methodLink RX1 135 yX0_write, Cond.static yX0_write, Cond.initialized RX0, Cond.code yX0_write cX0_write 5 none, Cond.methodLink RX0 9 yX3_cut, Cond.methodLink RX0 17 yX3_put, Cond.methodLink RX0 20 yX3_sum, Cond.methodLink RX1 117 yX2_isCall, Cond.instanceMethod yX2_isCall, Cond.selects RX2 yX2_isCall yX2_isCall]
def wsX6_takeStep_r8 : List Cond := [Cond.code yX2_isCall cX2_isCall 1 (some .boolean), Cond.constantLong RX2 28 (4294967295), Cond.methodLink RX1 141 yX2_beginReply, Cond.instanceMethod yX2_beginReply, Cond.selects RX2 yX2_beginReply yX2_beginReply, Cond.code yX2_beginReply cX2_beginReply 4 none, Cond.methodLink RX1 145 yX3_putNumber, Cond.methodLink RX1 152 yX2_writeTo, Cond.methodLink RX1 121 yX1_speaksToOrder, Cond.instanceMethod yX1_speaksToOrder, Cond.selects RX1 yX1_speaksToOrder yX1_speaksToOrder, Cond.code yX1_speaksToOrder cX1_speaksToOrder 8 (some .boolean), Cond.fieldLink RX1 81 "LampLine$Lamp" "orders" "I", Cond.methodLink RX1 158 yX1_formRefusal, Cond.static yX1_formRefusal, Cond.code yX1_formRefusal cX1_formRefusal 4 (some .int), Cond.methodLink RX1 177 yX1_isKnown, Cond.static yX1_isKnown, Cond.code yX1_isKnown cX1_isKnown 2 (some .boolean), Cond.fieldLink RX1 180 "LampLine$Lamp" "MATTERS" "[I", Cond.methodLink RX1 162 yX1_valueRefusal, Cond.instanceMethod yX1_valueRefusal, Cond.selects RX1 yX1_valueRefusal yX1_valueRefusal, Cond.code yX1_valueRefusal cX1_valueRefusal 6 (some .int)]
def wsX6_takeStep_r9 : List Cond := [Cond.fieldLink RX1 43 "LampLine$Lamp" "modes" "I", Cond.static yX6_fits, Cond.code yX6_fits cX6_fits 2 (some .boolean), Cond.methodLink RX1 166 yX2_refuse, Cond.instanceMethod yX2_refuse, Cond.selects RX2 yX2_refuse yX2_refuse, Cond.code yX2_refuse cX2_refuse 2 none, Cond.methodLink RX1 169 yX1_obey, Cond.instanceMethod yX1_obey, Cond.selects RX1 yX1_obey yX1_obey, Cond.code yX1_obey cX1_obey 7 none, Cond.constantLong RX1 190 (3), Cond.fieldLink RX1 68 "LampLine$Lamp" "shows" "Z", Cond.methodLink RX1 173 yX1_tell, Cond.instanceMethod yX1_tell, Cond.selects RX1 yX1_tell yX1_tell, Cond.code yX1_tell cX1_tell 6 none, Cond.methodLink RX1 192 yX3_put, Cond.static yX6_flag, Cond.code yX6_flag cX6_flag 1 (some .int), Cond.methodLink RX6 267 yX3_join, Cond.instanceMethod yX3_join, Cond.selects RX3 yX3_join yX3_join, Cond.code yX3_join cX3_join 3 none]
def wsX6_takeStep_r10 : List Cond := [Cond.methodLink RX6 270 yX5_applyTo, Cond.instanceMethod yX5_applyTo, Cond.selects RX5 yX5_applyTo yX5_applyTo, Cond.initialized RX5, Cond.code yX5_applyTo cX5_applyTo 3 none, Cond.fieldLink RX5 16 "LampLine$Spoils" "size" "I", Cond.fieldLink RX5 9 "LampLine$Spoils" "places" "[I", Cond.fieldLink RX5 13 "LampLine$Spoils" "masks" "[I", Cond.methodLink RX5 23 yX3_flip, Cond.instanceMethod yX3_flip, Cond.selects RX3 yX3_flip yX3_flip, Cond.code yX3_flip cX3_flip 3 none, Cond.methodLink RX6 148 yX6_isReplyFrom, Cond.instanceMethod yX6_isReplyFrom, Cond.selects RX6 yX6_isReplyFrom yX6_isReplyFrom, Cond.code yX6_isReplyFrom cX6_isReplyFrom 3 (some .boolean), Cond.methodLink RX6 316 yX4_keepFound, Cond.instanceMethod yX4_keepFound, Cond.selects RX4 yX4_keepFound yX4_keepFound, Cond.code yX4_keepFound cX4_keepFound 3 none, Cond.fieldLink RX4 29 "LampLine$Search" "foundCount" "I", Cond.fieldLink RX4 18 "LampLine$Search" "foundIds" "[J", Cond.methodLink RX4 43 yX4_hasFound, Cond.instanceMethod yX4_hasFound]
def wsX6_takeStep_r11 : List Cond := [Cond.selects RX4 yX4_hasFound yX4_hasFound, Cond.code yX4_hasFound cX4_hasFound 4 (some .boolean), Cond.methodLink RX6 300 yX4_pile, Cond.instanceMethod yX4_pile, Cond.selects RX4 yX4_pile yX4_pile, Cond.code yX4_pile cX4_pile 5 none, Cond.methodLink RX6 304 yX6_writeBranchSearch, Cond.instanceMethod yX6_writeBranchSearch, Cond.selects RX6 yX6_writeBranchSearch yX6_writeBranchSearch, Cond.code yX6_writeBranchSearch cX6_writeBranchSearch 5 none, Cond.constantLong RX6 205 (281474976710655), Cond.methodLink RX6 105 yX3_putNumber, Cond.methodLink RX6 307 yX0_read, Cond.static yX0_read, Cond.code yX0_read cX0_read 6 (some .long), Cond.constantLong RX0 28 (-1), Cond.constantLong RX0 34 (65535), Cond.methodLink RX0 24 yX3_size, Cond.methodLink RX0 30 yX3_at, Cond.methodLink RX6 313 yX4_hasFound]
def wsX6_takeStep : List Cond := .code yX6_takeStep cX6_takeStep 10 none :: ((wsX6_takeStep_r1 ++ (wsX6_takeStep_r2 ++ (wsX6_takeStep_r3 ++ (wsX6_takeStep_r4 ++ (wsX6_takeStep_r5 ++ (wsX6_takeStep_r6 ++ (wsX6_takeStep_r7 ++ (wsX6_takeStep_r8 ++ (wsX6_takeStep_r9 ++ (wsX6_takeStep_r10 ++ wsX6_takeStep_r11)))))))))) ++ wsX60 ++ wsX40 ++ wsX20 ++ wsX30 ++ wsX10 ++ wsX50)
def wsX6_step_r1 : List Cond := [Cond.classLink RX6 91 "java/lang/IllegalStateException", Cond.initialized "java/lang/IllegalStateException", Cond.classLink RX6 62 "java/lang/IllegalArgumentException", Cond.initialized "java/lang/IllegalArgumentException", Cond.fieldLink RX6 50 "LampLine" "hunt" "LLampLine$Search;", Cond.methodLink RX6 220 yX6_takeStep, Cond.instanceMethod yX6_takeStep, Cond.selects RX6 yX6_takeStep yX6_takeStep, Cond.initialized RX6, Cond.code yX6_takeStep cX6_takeStep 10 none, Cond.constantLong RX6 60 (4294967295), Cond.fieldLink RX6 26 "LampLine" "heardAnswer" "LLampLine$Row;", Cond.methodLink RX6 237 yX4_latestLow, Cond.instanceMethod yX4_latestLow, Cond.selects RX4 yX4_latestLow yX4_latestLow, Cond.initialized RX4, Cond.code yX4_latestLow cX4_latestLow 1 (some .long), Cond.fieldLink RX4 25 "LampLine$Search" "depth" "I", Cond.fieldLink RX4 11 "LampLine$Search" "lows" "[J", Cond.constantLong RX4 41 (-1), Cond.methodLink RX6 241 yX4_latestHigh, Cond.instanceMethod yX4_latestHigh, Cond.selects RX4 yX4_latestHigh yX4_latestHigh, Cond.code yX4_latestHigh cX4_latestHigh 1 (some .long)]
def wsX6_step_r2 : List Cond := [Cond.fieldLink RX4 15 "LampLine$Search" "highs" "[J", Cond.methodLink RX6 293 yX4_takeLatest, Cond.instanceMethod yX4_takeLatest, Cond.selects RX4 yX4_takeLatest yX4_takeLatest, Cond.code yX4_takeLatest cX4_takeLatest 1 none, Cond.fieldLink RX4 32 "LampLine$Search" "steps" "I", Cond.methodLink RX6 177 yX6_restOf, Cond.static yX6_restOf, Cond.code yX6_restOf cX6_restOf 2 (some .long), Cond.methodLink RX6 296 yX6_tryId, Cond.instanceMethod yX6_tryId, Cond.selects RX6 yX6_tryId yX6_tryId, Cond.code yX6_tryId cX6_tryId 3 (some .int), Cond.fieldLink RX6 34 "LampLine" "heard" "LLampLine$Packet;", Cond.methodLink RX6 207 yX6_writeSearch, Cond.instanceMethod yX6_writeSearch, Cond.selects RX6 yX6_writeSearch yX6_writeSearch, Cond.code yX6_writeSearch cX6_writeSearch 4 none, Cond.fieldLink RX6 30 "LampLine" "question" "LLampLine$Packet;", Cond.fieldLink RX6 18 "LampLine" "frame" "LLampLine$Row;", Cond.methodLink RX6 135 yX6_beginQuestion, Cond.instanceMethod yX6_beginQuestion, Cond.selects RX6 yX6_beginQuestion yX6_beginQuestion, Cond.code yX6_beginQuestion cX6_beginQuestion 5 none]
def wsX6_step_r3 : List Cond := [Cond.fieldLink RX6 273 "LampLine" "questionCount" "I", Cond.constantLong RX6 276 (140728898420737), Cond.methodLink RX6 111 yX3_cut, Cond.instanceMethod yX3_cut, Cond.selects RX3 yX3_cut yX3_cut, Cond.initialized RX3, Cond.code yX3_cut cX3_cut 2 none, Cond.fieldLink RX3 13 "LampLine$Row" "size" "I", Cond.methodLink RX6 145 yX2_writeTo, Cond.instanceMethod yX2_writeTo, Cond.selects RX2 yX2_writeTo yX2_writeTo, Cond.initialized RX2, Cond.code yX2_writeTo cX2_writeTo 4 none, Cond.fieldLink RX2 16 "LampLine$Packet" "data" "LLampLine$Row;", Cond.fieldLink RX2 20 "LampLine$Packet" "to" "J", Cond.fieldLink RX2 46 "LampLine$Packet" "from" "J", Cond.fieldLink RX2 49 "LampLine$Packet" "count" "I", Cond.fieldLink RX2 53 "LampLine$Packet" "kind" "I", Cond.fieldLink RX2 56 "LampLine$Packet" "messages" "I", Cond.fieldLink RX2 59 "LampLine$Packet" "part" "I", Cond.fieldLink RX2 62 "LampLine$Packet" "group" "I", Cond.fieldLink RX2 65 "LampLine$Packet" "matter" "I", Cond.methodLink RX2 34 yX3_size, Cond.instanceMethod yX3_size]
def wsX6_step_r4 : List Cond := [Cond.selects RX3 yX3_size yX3_size, Cond.code yX3_size cX3_size 1 (some .int), Cond.methodLink RX2 68 yX3_cut, Cond.methodLink RX2 71 yX3_put, Cond.instanceMethod yX3_put, Cond.selects RX3 yX3_put yX3_put, Cond.code yX3_put cX3_put 2 none, Cond.fieldLink RX3 7 "LampLine$Row" "cells" "[I", Cond.methodLink RX2 74 yX3_putNumber, Cond.instanceMethod yX3_putNumber, Cond.selects RX3 yX3_putNumber yX3_putNumber, Cond.code yX3_putNumber cX3_putNumber 5 none, Cond.methodLink RX2 30 yX3_at, Cond.instanceMethod yX3_at, Cond.selects RX3 yX3_at yX3_at, Cond.code yX3_at cX3_at 2 (some .int), Cond.methodLink RX2 38 yX3_sum, Cond.instanceMethod yX3_sum, Cond.selects RX3 yX3_sum yX3_sum, Cond.code yX3_sum cX3_sum 5 (some .int), Cond.constant RX3 21 (65535), Cond.methodLink RX6 118 yX6_runFrame, Cond.instanceMethod yX6_runFrame, Cond.selects RX6 yX6_runFrame yX6_runFrame]
def wsX6_step_r5 : List Cond := [Cond.code yX6_runFrame cX6_runFrame 5 none, Cond.fieldLink RX6 160 "LampLine" "frameCount" "I", Cond.fieldLink RX6 87 "LampLine" "lampCount" "I", Cond.fieldLink RX6 56 "LampLine" "lamps" "[LLampLine$Lamp;", Cond.fieldLink RX6 37 "LampLine" "reply" "LLampLine$Packet;", Cond.fieldLink RX6 23 "LampLine" "voice" "LLampLine$Row;", Cond.fieldLink RX6 43 "LampLine" "spoils" "LLampLine$Spoils;", Cond.methodLink RX6 99 yX3_size, Cond.methodLink RX6 126 yX3_at, Cond.methodLink RX6 246 yX2_readFrom, Cond.instanceMethod yX2_readFrom, Cond.selects RX2 yX2_readFrom yX2_readFrom, Cond.code yX2_readFrom cX2_readFrom 4 (some .boolean), Cond.methodLink RX2 42 yX3_number, Cond.instanceMethod yX3_number, Cond.selects RX3 yX3_number yX3_number, Cond.code yX3_number cX3_number 6 (some .long), Cond.methodLink RX3 17 yX3_at, Cond.methodLink RX6 250 yX1_ripen, Cond.instanceMethod yX1_ripen, Cond.selects RX1 yX1_ripen yX1_ripen, Cond.initialized RX1, Cond.code yX1_ripen cX1_ripen 3 none, Cond.fieldLink RX1 28 "LampLine$Lamp" "isLater" "[Z"]
def wsX6_step_r6 : List Cond := [Cond.fieldLink RX1 20 "LampLine$Lamp" "text" "LLampLine$Row;", Cond.fieldLink RX1 24 "LampLine$Lamp" "laterTexts" "[LLampLine$Row;", Cond.fieldLink RX1 88 "LampLine$Lamp" "onTheWay" "I", Cond.fieldLink RX1 75 "LampLine$Lamp" "waiting" "I", Cond.methodLink RX1 84 yX3_copyFrom, Cond.instanceMethod yX3_copyFrom, Cond.selects RX3 yX3_copyFrom yX3_copyFrom, Cond.code yX3_copyFrom cX3_copyFrom 3 none, Cond.methodLink RX6 253 yX1_shine, Cond.instanceMethod yX1_shine, Cond.selects RX1 yX1_shine yX1_shine, Cond.code yX1_shine cX1_shine 5 none, Cond.fieldLink RX1 46 "LampLine$Lamp" "address" "I", Cond.fieldLink RX1 49 "LampLine$Lamp" "litAt" "I", Cond.methodLink RX1 91 Lib.Math.min.name, Cond.static Lib.Math.min.name, Cond.initialized "java/lang/Math", Cond.code Lib.Math.min.name Lib.Math.min.code 2 (some .int), Cond.fieldLink RX1 9 "LampLine$Lamp" "levels" "[I", Cond.methodLink RX1 78 yX3_size, Cond.methodLink RX1 56 yX1_footprint, Cond.instanceMethod yX1_footprint, Cond.selects RX1 yX1_footprint yX1_footprint, Cond.code yX1_footprint cX1_footprint 1 (some .int)]
def wsX6_step_r7 : List Cond := [Cond.fieldLink RX1 40 "LampLine$Lamp" "width" "I", Cond.fieldLink RX1 32 "LampLine$Lamp" "mode" "I", Cond.methodLink RX1 97 yX3_at, Cond.methodLink RX6 260 yX1_isMeantBy, Cond.instanceMethod yX1_isMeantBy, Cond.selects RX1 yX1_isMeantBy yX1_isMeantBy, Cond.code yX1_isMeantBy cX1_isMeantBy 3 (some .boolean), Cond.constantLong RX1 105 (4294967295), Cond.fieldLink RX1 36 "LampLine$Lamp" "id" "J", Cond.constant RX1 107 (65535), Cond.static yX6_makerOf, Cond.code yX6_makerOf cX6_makerOf 2 (some .int), Cond.methodLink RX6 263 yX1_speaksTo, Cond.instanceMethod yX1_speaksTo, Cond.selects RX1 yX1_speaksTo yX1_speaksTo, Cond.code yX1_speaksTo cX1_speaksTo 5 (some .boolean), Cond.methodLink RX1 113 yX1_speaksToSearch, Cond.instanceMethod yX1_speaksToSearch, Cond.selects RX1 yX1_speaksToSearch yX1_speaksToSearch, Cond.code yX1_speaksToSearch cX1_speaksToSearch 5 (some .boolean), Cond.fieldLink RX1 60 "LampLine$Lamp" "silent" "Z", Cond.methodLink RX1 131 yX3_number, Cond.methodLink RX1 135 yX0_write, Cond.static yX0_write]
def wsX6_step_r8 : List Cond := [Cond.initialized RX0, Cond.code yX0_write cX0_write 5 none, Cond.methodLink RX0 9 yX3_cut, Cond.methodLink RX0 17 yX3_put, Cond.methodLink RX0 20 yX3_sum, Cond.methodLink RX1 117 yX2_isCall, Cond.instanceMethod yX2_isCall, Cond.selects RX2 yX2_isCall yX2_isCall, Cond.code yX2_isCall cX2_isCall 1 (some .boolean), Cond.constantLong RX2 28 (4294967295), Cond.methodLink RX1 141 yX2_beginReply, Cond.instanceMethod yX2_beginReply, Cond.selects RX2 yX2_beginReply yX2_beginReply, Cond.code yX2_beginReply cX2_beginReply 4 none, Cond.methodLink RX1 145 yX3_putNumber, Cond.methodLink RX1 152 yX2_writeTo, Cond.methodLink RX1 121 yX1_speaksToOrder, Cond.instanceMethod yX1_speaksToOrder, Cond.selects RX1 yX1_speaksToOrder yX1_speaksToOrder, Cond.code yX1_speaksToOrder cX1_speaksToOrder 8 (some .boolean), Cond.fieldLink RX1 81 "LampLine$Lamp" "orders" "I", Cond.methodLink RX1 158 yX1_formRefusal, Cond.static yX1_formRefusal, Cond.code yX1_formRefusal cX1_formRefusal 4 (some .int)]
def wsX6_step_r9 : List Cond := [Cond.methodLink RX1 177 yX1_isKnown, Cond.static yX1_isKnown, Cond.code yX1_isKnown cX1_isKnown 2 (some .boolean), Cond.fieldLink RX1 180 "LampLine$Lamp" "MATTERS" "[I", Cond.methodLink RX1 162 yX1_valueRefusal, Cond.instanceMethod yX1_valueRefusal, Cond.selects RX1 yX1_valueRefusal yX1_valueRefusal, Cond.code yX1_valueRefusal cX1_valueRefusal 6 (some .int), Cond.fieldLink RX1 43 "LampLine$Lamp" "modes" "I", Cond.static yX6_fits, Cond.code yX6_fits cX6_fits 2 (some .boolean), Cond.methodLink RX1 166 yX2_refuse, Cond.instanceMethod yX2_refuse, Cond.selects RX2 yX2_refuse yX2_refuse, Cond.code yX2_refuse cX2_refuse 2 none, Cond.methodLink RX1 169 yX1_obey, Cond.instanceMethod yX1_obey, Cond.selects RX1 yX1_obey yX1_obey, Cond.code yX1_obey cX1_obey 7 none, Cond.constantLong RX1 190 (3), Cond.fieldLink RX1 68 "LampLine$Lamp" "shows" "Z", Cond.methodLink RX1 173 yX1_tell, Cond.instanceMethod yX1_tell, Cond.selects RX1 yX1_tell yX1_tell]
def wsX6_step_r10 : List Cond := [Cond.code yX1_tell cX1_tell 6 none, Cond.methodLink RX1 192 yX3_put, Cond.static yX6_flag, Cond.code yX6_flag cX6_flag 1 (some .int), Cond.methodLink RX6 267 yX3_join, Cond.instanceMethod yX3_join, Cond.selects RX3 yX3_join yX3_join, Cond.code yX3_join cX3_join 3 none, Cond.methodLink RX6 270 yX5_applyTo, Cond.instanceMethod yX5_applyTo, Cond.selects RX5 yX5_applyTo yX5_applyTo, Cond.initialized RX5, Cond.code yX5_applyTo cX5_applyTo 3 none, Cond.fieldLink RX5 16 "LampLine$Spoils" "size" "I", Cond.fieldLink RX5 9 "LampLine$Spoils" "places" "[I", Cond.fieldLink RX5 13 "LampLine$Spoils" "masks" "[I", Cond.methodLink RX5 23 yX3_flip, Cond.instanceMethod yX3_flip, Cond.selects RX3 yX3_flip yX3_flip, Cond.code yX3_flip cX3_flip 3 none, Cond.methodLink RX6 148 yX6_isReplyFrom, Cond.instanceMethod yX6_isReplyFrom, Cond.selects RX6 yX6_isReplyFrom yX6_isReplyFrom, Cond.code yX6_isReplyFrom cX6_isReplyFrom 3 (some .boolean)]
def wsX6_step_r11 : List Cond := [Cond.methodLink RX6 316 yX4_keepFound, Cond.instanceMethod yX4_keepFound, Cond.selects RX4 yX4_keepFound yX4_keepFound, Cond.code yX4_keepFound cX4_keepFound 3 none, Cond.fieldLink RX4 29 "LampLine$Search" "foundCount" "I", Cond.fieldLink RX4 18 "LampLine$Search" "foundIds" "[J", Cond.methodLink RX4 43 yX4_hasFound, Cond.instanceMethod yX4_hasFound, Cond.selects RX4 yX4_hasFound yX4_hasFound, Cond.code yX4_hasFound cX4_hasFound 4 (some .boolean), Cond.methodLink RX6 300 yX4_pile, Cond.instanceMethod yX4_pile, Cond.selects RX4 yX4_pile yX4_pile, Cond.code yX4_pile cX4_pile 5 none, Cond.methodLink RX6 304 yX6_writeBranchSearch, Cond.instanceMethod yX6_writeBranchSearch, Cond.selects RX6 yX6_writeBranchSearch yX6_writeBranchSearch, Cond.code yX6_writeBranchSearch cX6_writeBranchSearch 5 none, Cond.constantLong RX6 205 (281474976710655), Cond.methodLink RX6 105 yX3_putNumber, Cond.methodLink RX6 307 yX0_read, Cond.static yX0_read, Cond.code yX0_read cX0_read 6 (some .long), Cond.constantLong RX0 28 (-1)]
def wsX6_step_r12 : List Cond := [Cond.constantLong RX0 34 (65535), Cond.methodLink RX0 24 yX3_size, Cond.methodLink RX0 30 yX3_at, Cond.methodLink RX6 313 yX4_hasFound]
def wsX6_step : List Cond := .code yX6_step cX6_step 3 (some .int) :: ((wsX6_step_r1 ++ (wsX6_step_r2 ++ (wsX6_step_r3 ++ (wsX6_step_r4 ++ (wsX6_step_r5 ++ (wsX6_step_r6 ++ (wsX6_step_r7 ++ (wsX6_step_r8 ++ (wsX6_step_r9 ++ (wsX6_step_r10 ++ (wsX6_step_r11 ++ wsX6_step_r12))))))))))) ++ wsX60 ++ wsX40 ++ wsX20 ++ wsX30 ++ wsX10 ++ wsX50 ++ (vx_atS RX6 95 "java/lang/IllegalStateException" ["java/lang/RuntimeException", "java/lang/Exception"]).filter goodWord ++ (vx_atS RX6 66 "java/lang/IllegalArgumentException" ["java/lang/RuntimeException", "java/lang/Exception"]).filter goodWord)
def wsX6_found : List Cond := .code yX6_found cX6_found 1 (some .int) :: ([.fieldLink RX6 50 "LampLine" "hunt" "LLampLine$Search;"] ++ wsX60 ++ wsX40)
def wsX6_id : List Cond := .code yX6_id cX6_id 2 (some .long) :: ([.classLink RX6 121 "java/lang/IndexOutOfBoundsException", .initialized "java/lang/IndexOutOfBoundsException", .fieldLink RX6 50 "LampLine" "hunt" "LLampLine$Search;"] ++ wsX60 ++ wsX40 ++ (vx_atS RX6 125 "java/lang/IndexOutOfBoundsException" ["java/lang/RuntimeException", "java/lang/Exception"]).filter goodWord)
def wsX6_branch : List Cond := .code yX6_branch cX6_branch 2 (some .long) :: ([.classLink RX6 121 "java/lang/IndexOutOfBoundsException", .initialized "java/lang/IndexOutOfBoundsException", .fieldLink RX6 50 "LampLine" "hunt" "LLampLine$Search;", .methodLink RX6 237 yX4_latestLow, .instanceMethod yX4_latestLow, .selects RX4 yX4_latestLow yX4_latestLow, .initialized RX4, .code yX4_latestLow cX4_latestLow 1 (some .long), .fieldLink RX4 25 "LampLine$Search" "depth" "I", .fieldLink RX4 11 "LampLine$Search" "lows" "[J", .constantLong RX4 41 (-1), .methodLink RX6 241 yX4_latestHigh, .instanceMethod yX4_latestHigh, .selects RX4 yX4_latestHigh yX4_latestHigh, .code yX4_latestHigh cX4_latestHigh 1 (some .long), .fieldLink RX4 15 "LampLine$Search" "highs" "[J"] ++ wsX60 ++ wsX40 ++ (vx_atS RX6 125 "java/lang/IndexOutOfBoundsException" ["java/lang/RuntimeException", "java/lang/Exception"]).filter goodWord)
def wsX7_init_r1 : List Cond := [Cond.methodLink RX7 1 objectInit, Cond.instanceMethod objectInit, Cond.code objectInit ⟨#[0xb1]⟩ 1 none, Cond.arrayClass .int, Cond.fieldLink RX7 7 "LampLineModel" "maker" "[I", Cond.arrayClass .long, Cond.fieldLink RX7 13 "LampLineModel" "rest" "[J", Cond.fieldLink RX7 17 "LampLineModel" "width" "[I", Cond.fieldLink RX7 20 "LampLineModel" "modes" "[I", Cond.fieldLink RX7 23 "LampLineModel" "mode" "[I", Cond.fieldLink RX7 26 "LampLineModel" "address" "[I", Cond.arrayClass .boolean, Cond.fieldLink RX7 29 "LampLineModel" "silent" "[Z", Cond.fieldLink RX7 33 "LampLineModel" "shows" "[Z", Cond.fieldLink RX7 36 "LampLineModel" "labelSize" "[I", Cond.arrayClass .byte, Cond.fieldLink RX7 39 "LampLineModel" "label" "[B", Cond.fieldLink RX7 43 "LampLineModel" "asked" "[I", Cond.fieldLink RX7 46 "LampLineModel" "levels" "[I", Cond.fieldLink RX7 49 "LampLineModel" "lit" "[I", Cond.fieldLink RX7 52 "LampLineModel" "laters" "[I", Cond.fieldLink RX7 55 "LampLineModel" "due" "[I", Cond.fieldLink RX7 58 "LampLineModel" "laterSize" "[I", Cond.fieldLink RX7 61 "LampLineModel" "laterBytes" "[B"]
def wsX7_init_r2 : List Cond := [Cond.fieldLink RX7 64 "LampLineModel" "tape" "[B", Cond.fieldLink RX7 67 "LampLineModel" "frame" "[B", Cond.fieldLink RX7 70 "LampLineModel" "answer" "[B", Cond.fieldLink RX7 73 "LampLineModel" "reply" "[B", Cond.fieldLink RX7 76 "LampLineModel" "spoilAt" "[I", Cond.fieldLink RX7 79 "LampLineModel" "spoilMask" "[I", Cond.fieldLink RX7 82 "LampLineModel" "low" "[J", Cond.fieldLink RX7 85 "LampLineModel" "high" "[J", Cond.fieldLink RX7 88 "LampLineModel" "foundId" "[J"]
def wsX7_init : List Cond := .code yX7_init cX7_init 1 none :: ((wsX7_init_r1 ++ wsX7_init_r2) ++ wsX70)
def wsX7_thrown : List Cond := .code yX7_thrown cX7_thrown 1 (some .int) :: ([.fieldLink RX7 91 "LampLineModel" "thrown" "I"] ++ wsX70)
def wsX7_in : List Cond := .code yX7_in cX7_in 6 (some .boolean) :: ([])
def wsX7_goes : List Cond := .code yX7_goes cX7_goes 2 (some .boolean) :: ([.fieldLink RX7 91 "LampLineModel" "thrown" "I"] ++ wsX70)
def wsX7_idOf : List Cond := .code yX7_idOf cX7_idOf 3 (some .long) :: ([])
def wsX7_ownId : List Cond := .code yX7_ownId cX7_ownId 2 (some .long) :: ([.fieldLink RX7 7 "LampLineModel" "maker" "[I", .fieldLink RX7 13 "LampLineModel" "rest" "[J", .methodLink RX7 95 yX7_idOf, .static yX7_idOf, .initialized RX7, .code yX7_idOf cX7_idOf 3 (some .long)] ++ wsX70)
def wsX7_lamp : List Cond := .code yX7_lamp cX7_lamp 9 (some .int) :: ([.constantLong RX7 99 (32767), .constantLong RX7 105 (4294967294), .constantLong RX7 107 (64), .constantLong RX7 109 (8), .constantLong RX7 111 (512), .fieldLink RX7 113 "LampLineModel" "lamps" "I", .fieldLink RX7 7 "LampLineModel" "maker" "[I", .fieldLink RX7 13 "LampLineModel" "rest" "[J", .fieldLink RX7 91 "LampLineModel" "thrown" "I", .fieldLink RX7 17 "LampLineModel" "width" "[I", .fieldLink RX7 20 "LampLineModel" "modes" "[I", .fieldLink RX7 23 "LampLineModel" "mode" "[I", .fieldLink RX7 26 "LampLineModel" "address" "[I", .methodLink RX7 101 yX7_in, .static yX7_in, .initialized RX7, .code yX7_in cX7_in 6 (some .boolean)] ++ wsX70)
def wsX7_feed : List Cond := .code yX7_feed cX7_feed 8 (some .int) :: ([.fieldLink RX7 116 "LampLineModel" "taped" "I", .fieldLink RX7 64 "LampLineModel" "tape" "[B", .methodLink RX7 119 yX7_goes, .instanceMethod yX7_goes, .selects RX7 yX7_goes yX7_goes, .initialized RX7, .code yX7_goes cX7_goes 2 (some .boolean), .fieldLink RX7 91 "LampLineModel" "thrown" "I"] ++ wsX70)
def wsX7_end : List Cond := .code yX7_end cX7_end 2 none :: ([.fieldLink RX7 116 "LampLineModel" "taped" "I", .methodLink RX7 101 yX7_in, .static yX7_in, .initialized RX7, .code yX7_in cX7_in 6 (some .boolean), .methodLink RX7 119 yX7_goes, .instanceMethod yX7_goes, .selects RX7 yX7_goes yX7_goes, .code yX7_goes cX7_goes 2 (some .boolean), .fieldLink RX7 91 "LampLineModel" "thrown" "I"] ++ wsX70)
def wsX7_at : List Cond := .code yX7_at cX7_at 2 (some .int) :: ([.fieldLink RX7 67 "LampLineModel" "frame" "[B"] ++ wsX70)
def wsX7_two : List Cond := .code yX7_two cX7_two 2 (some .int) :: ([.methodLink RX7 123 yX7_at, .instanceMethod yX7_at, .selects RX7 yX7_at yX7_at, .initialized RX7, .code yX7_at cX7_at 2 (some .int), .fieldLink RX7 67 "LampLineModel" "frame" "[B"] ++ wsX70)
def wsX7_six : List Cond := .code yX7_six cX7_six 5 (some .long) :: ([.constantLong RX7 127 (256), .methodLink RX7 123 yX7_at, .instanceMethod yX7_at, .selects RX7 yX7_at yX7_at, .initialized RX7, .code yX7_at cX7_at 2 (some .int), .fieldLink RX7 67 "LampLineModel" "frame" "[B"] ++ wsX70)
def wsX7_footprint : List Cond := .code yX7_footprint cX7_footprint 2 (some .int) :: ([.fieldLink RX7 17 "LampLineModel" "width" "[I", .fieldLink RX7 23 "LampLineModel" "mode" "[I"] ++ wsX70)
def wsX7_doDue : List Cond := .code yX7_doDue cX7_doDue 5 none :: ([.fieldLink RX7 113 "LampLineModel" "lamps" "I", .fieldLink RX7 52 "LampLineModel" "laters" "[I", .fieldLink RX7 55 "LampLineModel" "due" "[I", .fieldLink RX7 129 "LampLineModel" "frames" "I", .fieldLink RX7 36 "LampLineModel" "labelSize" "[I", .fieldLink RX7 58 "LampLineModel" "laterSize" "[I", .fieldLink RX7 39 "LampLineModel" "label" "[B", .fieldLink RX7 61 "LampLineModel" "laterBytes" "[B"] ++ wsX70)
def wsX7_waiting : List Cond := .code yX7_waiting cX7_waiting 4 (some .int) :: ([.fieldLink RX7 52 "LampLineModel" "laters" "[I", .fieldLink RX7 55 "LampLineModel" "due" "[I"] ++ wsX70)
def wsX7_takeLevels : List Cond := .code yX7_takeLevels cX7_takeLevels 3 none :: ([.fieldLink RX7 26 "LampLineModel" "address" "[I", .fieldLink RX7 138 "LampLineModel" "frameSize" "I", .fieldLink RX7 46 "LampLineModel" "levels" "[I", .fieldLink RX7 49 "LampLineModel" "lit" "[I", .fieldLink RX7 129 "LampLineModel" "frames" "I", .methodLink RX7 173 yX7_footprint, .instanceMethod yX7_footprint, .selects RX7 yX7_footprint yX7_footprint, .initialized RX7, .code yX7_footprint cX7_footprint 2 (some .int), .fieldLink RX7 17 "LampLineModel" "width" "[I", .fieldLink RX7 23 "LampLineModel" "mode" "[I", .methodLink RX7 123 yX7_at, .instanceMethod yX7_at, .selects RX7 yX7_at yX7_at, .code yX7_at cX7_at 2 (some .int), .fieldLink RX7 67 "LampLineModel" "frame" "[B"] ++ wsX70)
def wsX7_isPacket : List Cond := .code yX7_isPacket cX7_isPacket 3 (some .boolean) :: ([.fieldLink RX7 138 "LampLineModel" "frameSize" "I", .constant RX7 176 (65536), .methodLink RX7 123 yX7_at, .instanceMethod yX7_at, .selects RX7 yX7_at yX7_at, .initialized RX7, .code yX7_at cX7_at 2 (some .int), .fieldLink RX7 67 "LampLineModel" "frame" "[B", .methodLink RX7 177 yX7_two, .instanceMethod yX7_two, .selects RX7 yX7_two yX7_two, .code yX7_two cX7_two 2 (some .int)] ++ wsX70)
def wsX7_put : List Cond := .code yX7_put cX7_put 2 none :: ([.fieldLink RX7 73 "LampLineModel" "reply" "[B", .fieldLink RX7 160 "LampLineModel" "replySize" "I"] ++ wsX70)
def wsX7_show : List Cond := .code yX7_show cX7_show 6 none :: ([.fieldLink RX7 160 "LampLineModel" "replySize" "I", .methodLink RX7 180 yX7_put, .instanceMethod yX7_put, .selects RX7 yX7_put yX7_put, .initialized RX7, .code yX7_put cX7_put 2 none, .fieldLink RX7 73 "LampLineModel" "reply" "[B"] ++ wsX70)
def wsX7_putId : List Cond := .code yX7_putId cX7_putId 4 none :: ([.methodLink RX7 180 yX7_put, .instanceMethod yX7_put, .selects RX7 yX7_put yX7_put, .initialized RX7, .code yX7_put cX7_put 2 none, .fieldLink RX7 73 "LampLineModel" "reply" "[B", .fieldLink RX7 160 "LampLineModel" "replySize" "I"] ++ wsX70)
def wsX7_putTwo : List Cond := .code yX7_putTwo cX7_putTwo 2 none :: ([.methodLink RX7 180 yX7_put, .instanceMethod yX7_put, .selects RX7 yX7_put yX7_put, .initialized RX7, .code yX7_put cX7_put 2 none, .fieldLink RX7 73 "LampLineModel" "reply" "[B", .fieldLink RX7 160 "LampLineModel" "replySize" "I"] ++ wsX70)
def wsX7_begin_r1 : List Cond := [Cond.fieldLink RX7 160 "LampLineModel" "replySize" "I", Cond.methodLink RX7 180 yX7_put, Cond.instanceMethod yX7_put, Cond.selects RX7 yX7_put yX7_put, Cond.initialized RX7, Cond.code yX7_put cX7_put 2 none, Cond.fieldLink RX7 73 "LampLineModel" "reply" "[B", Cond.methodLink RX7 123 yX7_at, Cond.instanceMethod yX7_at, Cond.selects RX7 yX7_at yX7_at, Cond.code yX7_at cX7_at 2 (some .int), Cond.fieldLink RX7 67 "LampLineModel" "frame" "[B", Cond.methodLink RX7 153 yX7_ownId, Cond.instanceMethod yX7_ownId, Cond.selects RX7 yX7_ownId yX7_ownId, Cond.code yX7_ownId cX7_ownId 2 (some .long), Cond.fieldLink RX7 7 "LampLineModel" "maker" "[I", Cond.fieldLink RX7 13 "LampLineModel" "rest" "[J", Cond.methodLink RX7 95 yX7_idOf, Cond.static yX7_idOf, Cond.code yX7_idOf cX7_idOf 3 (some .long), Cond.methodLink RX7 183 yX7_putId, Cond.instanceMethod yX7_putId, Cond.selects RX7 yX7_putId yX7_putId]
def wsX7_begin_r2 : List Cond := [Cond.code yX7_putId cX7_putId 4 none, Cond.methodLink RX7 177 yX7_two, Cond.instanceMethod yX7_two, Cond.selects RX7 yX7_two yX7_two, Cond.code yX7_two cX7_two 2 (some .int), Cond.methodLink RX7 187 yX7_putTwo, Cond.instanceMethod yX7_putTwo, Cond.selects RX7 yX7_putTwo yX7_putTwo, Cond.code yX7_putTwo cX7_putTwo 2 none]
def wsX7_begin : List Cond := .code yX7_begin cX7_begin 6 none :: ((wsX7_begin_r1 ++ wsX7_begin_r2) ++ wsX70)
def wsX7_finish : List Cond := .code yX7_finish cX7_finish 4 none :: ([.fieldLink RX7 73 "LampLineModel" "reply" "[B", .fieldLink RX7 160 "LampLineModel" "replySize" "I", .methodLink RX7 190 yX7_waiting, .instanceMethod yX7_waiting, .selects RX7 yX7_waiting yX7_waiting, .initialized RX7, .code yX7_waiting cX7_waiting 4 (some .int), .fieldLink RX7 52 "LampLineModel" "laters" "[I", .fieldLink RX7 55 "LampLineModel" "due" "[I", .methodLink RX7 187 yX7_putTwo, .instanceMethod yX7_putTwo, .selects RX7 yX7_putTwo yX7_putTwo, .code yX7_putTwo cX7_putTwo 2 none, .methodLink RX7 180 yX7_put, .instanceMethod yX7_put, .selects RX7 yX7_put yX7_put, .code yX7_put cX7_put 2 none] ++ wsX70)
def wsX7_hearSearch_r1 : List Cond := [Cond.fieldLink RX7 29 "LampLineModel" "silent" "[Z", Cond.methodLink RX7 177 yX7_two, Cond.instanceMethod yX7_two, Cond.selects RX7 yX7_two yX7_two, Cond.initialized RX7, Cond.code yX7_two cX7_two 2 (some .int), Cond.methodLink RX7 123 yX7_at, Cond.instanceMethod yX7_at, Cond.selects RX7 yX7_at yX7_at, Cond.code yX7_at cX7_at 2 (some .int), Cond.fieldLink RX7 67 "LampLineModel" "frame" "[B", Cond.methodLink RX7 153 yX7_ownId, Cond.instanceMethod yX7_ownId, Cond.selects RX7 yX7_ownId yX7_ownId, Cond.code yX7_ownId cX7_ownId 2 (some .long), Cond.fieldLink RX7 7 "LampLineModel" "maker" "[I", Cond.fieldLink RX7 13 "LampLineModel" "rest" "[J", Cond.methodLink RX7 95 yX7_idOf, Cond.static yX7_idOf, Cond.code yX7_idOf cX7_idOf 3 (some .long), Cond.methodLink RX7 149 yX7_six, Cond.instanceMethod yX7_six, Cond.selects RX7 yX7_six yX7_six, Cond.code yX7_six cX7_six 5 (some .long)]
def wsX7_hearSearch_r2 : List Cond := [Cond.constantLong RX7 127 (256), Cond.methodLink RX7 202 yX7_show, Cond.instanceMethod yX7_show, Cond.selects RX7 yX7_show yX7_show, Cond.code yX7_show cX7_show 6 none, Cond.fieldLink RX7 160 "LampLineModel" "replySize" "I", Cond.methodLink RX7 180 yX7_put, Cond.instanceMethod yX7_put, Cond.selects RX7 yX7_put yX7_put, Cond.code yX7_put cX7_put 2 none, Cond.fieldLink RX7 73 "LampLineModel" "reply" "[B", Cond.methodLink RX7 205 yX7_begin, Cond.instanceMethod yX7_begin, Cond.selects RX7 yX7_begin yX7_begin, Cond.code yX7_begin cX7_begin 6 none, Cond.methodLink RX7 183 yX7_putId, Cond.instanceMethod yX7_putId, Cond.selects RX7 yX7_putId yX7_putId, Cond.code yX7_putId cX7_putId 4 none, Cond.methodLink RX7 187 yX7_putTwo, Cond.instanceMethod yX7_putTwo, Cond.selects RX7 yX7_putTwo yX7_putTwo, Cond.code yX7_putTwo cX7_putTwo 2 none, Cond.methodLink RX7 209 yX7_finish]
def wsX7_hearSearch_r3 : List Cond := [Cond.instanceMethod yX7_finish, Cond.selects RX7 yX7_finish yX7_finish, Cond.code yX7_finish cX7_finish 4 none, Cond.methodLink RX7 190 yX7_waiting, Cond.instanceMethod yX7_waiting, Cond.selects RX7 yX7_waiting yX7_waiting, Cond.code yX7_waiting cX7_waiting 4 (some .int), Cond.fieldLink RX7 52 "LampLineModel" "laters" "[I", Cond.fieldLink RX7 55 "LampLineModel" "due" "[I"]
def wsX7_hearSearch : List Cond := .code yX7_hearSearch cX7_hearSearch 7 none :: ((wsX7_hearSearch_r1 ++ (wsX7_hearSearch_r2 ++ wsX7_hearSearch_r3)) ++ wsX70)
def wsX7_refuse_r1 : List Cond := [Cond.methodLink RX7 123 yX7_at, Cond.instanceMethod yX7_at, Cond.selects RX7 yX7_at yX7_at, Cond.initialized RX7, Cond.code yX7_at cX7_at 2 (some .int), Cond.fieldLink RX7 67 "LampLineModel" "frame" "[B", Cond.methodLink RX7 177 yX7_two, Cond.instanceMethod yX7_two, Cond.selects RX7 yX7_two yX7_two, Cond.code yX7_two cX7_two 2 (some .int), Cond.methodLink RX7 205 yX7_begin, Cond.instanceMethod yX7_begin, Cond.selects RX7 yX7_begin yX7_begin, Cond.code yX7_begin cX7_begin 6 none, Cond.fieldLink RX7 160 "LampLineModel" "replySize" "I", Cond.methodLink RX7 180 yX7_put, Cond.instanceMethod yX7_put, Cond.selects RX7 yX7_put yX7_put, Cond.code yX7_put cX7_put 2 none, Cond.fieldLink RX7 73 "LampLineModel" "reply" "[B", Cond.methodLink RX7 153 yX7_ownId, Cond.instanceMethod yX7_ownId, Cond.selects RX7 yX7_ownId yX7_ownId, Cond.code yX7_ownId cX7_ownId 2 (some .long)]
def wsX7_refuse_r2 : List Cond := [Cond.fieldLink RX7 7 "LampLineModel" "maker" "[I", Cond.fieldLink RX7 13 "LampLineModel" "rest" "[J", Cond.methodLink RX7 95 yX7_idOf, Cond.static yX7_idOf, Cond.code yX7_idOf cX7_idOf 3 (some .long), Cond.methodLink RX7 183 yX7_putId, Cond.instanceMethod yX7_putId, Cond.selects RX7 yX7_putId yX7_putId, Cond.code yX7_putId cX7_putId 4 none, Cond.methodLink RX7 187 yX7_putTwo, Cond.instanceMethod yX7_putTwo, Cond.selects RX7 yX7_putTwo yX7_putTwo, Cond.code yX7_putTwo cX7_putTwo 2 none, Cond.methodLink RX7 209 yX7_finish, Cond.instanceMethod yX7_finish, Cond.selects RX7 yX7_finish yX7_finish, Cond.code yX7_finish cX7_finish 4 none, Cond.methodLink RX7 190 yX7_waiting, Cond.instanceMethod yX7_waiting, Cond.selects RX7 yX7_waiting yX7_waiting, Cond.code yX7_waiting cX7_waiting 4 (some .int), Cond.fieldLink RX7 52 "LampLineModel" "laters" "[I", Cond.fieldLink RX7 55 "LampLineModel" "due" "[I"]
def wsX7_refuse : List Cond := .code yX7_refuse cX7_refuse 4 none :: ((wsX7_refuse_r1 ++ wsX7_refuse_r2) ++ wsX70)
def wsX7_isMatter : List Cond := .code yX7_isMatter cX7_isMatter 1 (some .boolean) :: ([])
def wsX7_getWaiting_r1 : List Cond := [Cond.fieldLink RX7 52 "LampLineModel" "laters" "[I", Cond.fieldLink RX7 55 "LampLineModel" "due" "[I", Cond.fieldLink RX7 58 "LampLineModel" "laterSize" "[I", Cond.fieldLink RX7 61 "LampLineModel" "laterBytes" "[B", Cond.methodLink RX7 205 yX7_begin, Cond.instanceMethod yX7_begin, Cond.selects RX7 yX7_begin yX7_begin, Cond.initialized RX7, Cond.code yX7_begin cX7_begin 6 none, Cond.fieldLink RX7 160 "LampLineModel" "replySize" "I", Cond.methodLink RX7 180 yX7_put, Cond.instanceMethod yX7_put, Cond.selects RX7 yX7_put yX7_put, Cond.code yX7_put cX7_put 2 none, Cond.fieldLink RX7 73 "LampLineModel" "reply" "[B", Cond.methodLink RX7 123 yX7_at, Cond.instanceMethod yX7_at, Cond.selects RX7 yX7_at yX7_at, Cond.code yX7_at cX7_at 2 (some .int), Cond.fieldLink RX7 67 "LampLineModel" "frame" "[B", Cond.methodLink RX7 153 yX7_ownId, Cond.instanceMethod yX7_ownId, Cond.selects RX7 yX7_ownId yX7_ownId, Cond.code yX7_ownId cX7_ownId 2 (some .long)]
def wsX7_getWaiting_r2 : List Cond := [Cond.fieldLink RX7 7 "LampLineModel" "maker" "[I", Cond.fieldLink RX7 13 "LampLineModel" "rest" "[J", Cond.methodLink RX7 95 yX7_idOf, Cond.static yX7_idOf, Cond.code yX7_idOf cX7_idOf 3 (some .long), Cond.methodLink RX7 183 yX7_putId, Cond.instanceMethod yX7_putId, Cond.selects RX7 yX7_putId yX7_putId, Cond.code yX7_putId cX7_putId 4 none, Cond.methodLink RX7 177 yX7_two, Cond.instanceMethod yX7_two, Cond.selects RX7 yX7_two yX7_two, Cond.code yX7_two cX7_two 2 (some .int), Cond.methodLink RX7 187 yX7_putTwo, Cond.instanceMethod yX7_putTwo, Cond.selects RX7 yX7_putTwo yX7_putTwo, Cond.code yX7_putTwo cX7_putTwo 2 none, Cond.methodLink RX7 209 yX7_finish, Cond.instanceMethod yX7_finish, Cond.selects RX7 yX7_finish yX7_finish, Cond.code yX7_finish cX7_finish 4 none, Cond.methodLink RX7 190 yX7_waiting, Cond.instanceMethod yX7_waiting, Cond.selects RX7 yX7_waiting yX7_waiting]
def wsX7_getWaiting_r3 : List Cond := [Cond.code yX7_waiting cX7_waiting 4 (some .int)]
def wsX7_getWaiting : List Cond := .code yX7_getWaiting cX7_getWaiting 6 none :: ((wsX7_getWaiting_r1 ++ (wsX7_getWaiting_r2 ++ wsX7_getWaiting_r3)) ++ wsX70)
def wsX7_tell_r1 : List Cond := [Cond.fieldLink RX7 7 "LampLineModel" "maker" "[I", Cond.fieldLink RX7 13 "LampLineModel" "rest" "[J", Cond.fieldLink RX7 23 "LampLineModel" "mode" "[I", Cond.fieldLink RX7 20 "LampLineModel" "modes" "[I", Cond.fieldLink RX7 26 "LampLineModel" "address" "[I", Cond.fieldLink RX7 43 "LampLineModel" "asked" "[I", Cond.constant RX7 176 (65536), Cond.fieldLink RX7 36 "LampLineModel" "labelSize" "[I", Cond.fieldLink RX7 39 "LampLineModel" "label" "[B", Cond.fieldLink RX7 33 "LampLineModel" "shows" "[Z", Cond.methodLink RX7 187 yX7_putTwo, Cond.instanceMethod yX7_putTwo, Cond.selects RX7 yX7_putTwo yX7_putTwo, Cond.initialized RX7, Cond.code yX7_putTwo cX7_putTwo 2 none, Cond.methodLink RX7 180 yX7_put, Cond.instanceMethod yX7_put, Cond.selects RX7 yX7_put yX7_put, Cond.code yX7_put cX7_put 2 none, Cond.fieldLink RX7 73 "LampLineModel" "reply" "[B", Cond.fieldLink RX7 160 "LampLineModel" "replySize" "I", Cond.methodLink RX7 173 yX7_footprint, Cond.instanceMethod yX7_footprint, Cond.selects RX7 yX7_footprint yX7_footprint]
def wsX7_tell_r2 : List Cond := [Cond.code yX7_footprint cX7_footprint 2 (some .int), Cond.fieldLink RX7 17 "LampLineModel" "width" "[I"]
def wsX7_tell : List Cond := .code yX7_tell cX7_tell 5 none :: ((wsX7_tell_r1 ++ wsX7_tell_r2) ++ wsX70)
def wsX7_get_r1 : List Cond := [Cond.methodLink RX7 177 yX7_two, Cond.instanceMethod yX7_two, Cond.selects RX7 yX7_two yX7_two, Cond.initialized RX7, Cond.code yX7_two cX7_two 2 (some .int), Cond.methodLink RX7 123 yX7_at, Cond.instanceMethod yX7_at, Cond.selects RX7 yX7_at yX7_at, Cond.code yX7_at cX7_at 2 (some .int), Cond.fieldLink RX7 67 "LampLineModel" "frame" "[B", Cond.methodLink RX7 212 yX7_refuse, Cond.instanceMethod yX7_refuse, Cond.selects RX7 yX7_refuse yX7_refuse, Cond.code yX7_refuse cX7_refuse 4 none, Cond.methodLink RX7 205 yX7_begin, Cond.instanceMethod yX7_begin, Cond.selects RX7 yX7_begin yX7_begin, Cond.code yX7_begin cX7_begin 6 none, Cond.fieldLink RX7 160 "LampLineModel" "replySize" "I", Cond.methodLink RX7 180 yX7_put, Cond.instanceMethod yX7_put, Cond.selects RX7 yX7_put yX7_put, Cond.code yX7_put cX7_put 2 none, Cond.fieldLink RX7 73 "LampLineModel" "reply" "[B"]
def wsX7_get_r2 : List Cond := [Cond.methodLink RX7 153 yX7_ownId, Cond.instanceMethod yX7_ownId, Cond.selects RX7 yX7_ownId yX7_ownId, Cond.code yX7_ownId cX7_ownId 2 (some .long), Cond.fieldLink RX7 7 "LampLineModel" "maker" "[I", Cond.fieldLink RX7 13 "LampLineModel" "rest" "[J", Cond.methodLink RX7 95 yX7_idOf, Cond.static yX7_idOf, Cond.code yX7_idOf cX7_idOf 3 (some .long), Cond.methodLink RX7 183 yX7_putId, Cond.instanceMethod yX7_putId, Cond.selects RX7 yX7_putId yX7_putId, Cond.code yX7_putId cX7_putId 4 none, Cond.methodLink RX7 187 yX7_putTwo, Cond.instanceMethod yX7_putTwo, Cond.selects RX7 yX7_putTwo yX7_putTwo, Cond.code yX7_putTwo cX7_putTwo 2 none, Cond.methodLink RX7 209 yX7_finish, Cond.instanceMethod yX7_finish, Cond.selects RX7 yX7_finish yX7_finish, Cond.code yX7_finish cX7_finish 4 none, Cond.methodLink RX7 190 yX7_waiting, Cond.instanceMethod yX7_waiting, Cond.selects RX7 yX7_waiting yX7_waiting]
def wsX7_get_r3 : List Cond := [Cond.code yX7_waiting cX7_waiting 4 (some .int), Cond.fieldLink RX7 52 "LampLineModel" "laters" "[I", Cond.fieldLink RX7 55 "LampLineModel" "due" "[I", Cond.methodLink RX7 216 yX7_isMatter, Cond.static yX7_isMatter, Cond.code yX7_isMatter cX7_isMatter 1 (some .boolean), Cond.methodLink RX7 220 yX7_getWaiting, Cond.instanceMethod yX7_getWaiting, Cond.selects RX7 yX7_getWaiting yX7_getWaiting, Cond.code yX7_getWaiting cX7_getWaiting 6 none, Cond.fieldLink RX7 58 "LampLineModel" "laterSize" "[I", Cond.fieldLink RX7 61 "LampLineModel" "laterBytes" "[B", Cond.methodLink RX7 223 yX7_tell, Cond.instanceMethod yX7_tell, Cond.selects RX7 yX7_tell yX7_tell, Cond.code yX7_tell cX7_tell 5 none, Cond.fieldLink RX7 23 "LampLineModel" "mode" "[I", Cond.fieldLink RX7 20 "LampLineModel" "modes" "[I", Cond.fieldLink RX7 26 "LampLineModel" "address" "[I", Cond.fieldLink RX7 43 "LampLineModel" "asked" "[I", Cond.constant RX7 176 (65536), Cond.fieldLink RX7 36 "LampLineModel" "labelSize" "[I", Cond.fieldLink RX7 39 "LampLineModel" "label" "[B", Cond.fieldLink RX7 33 "LampLineModel" "shows" "[Z"]
def wsX7_get_r4 : List Cond := [Cond.methodLink RX7 173 yX7_footprint, Cond.instanceMethod yX7_footprint, Cond.selects RX7 yX7_footprint yX7_footprint, Cond.code yX7_footprint cX7_footprint 2 (some .int), Cond.fieldLink RX7 17 "LampLineModel" "width" "[I"]
def wsX7_get : List Cond := .code yX7_get cX7_get 3 none :: ((wsX7_get_r1 ++ (wsX7_get_r2 ++ (wsX7_get_r3 ++ wsX7_get_r4))) ++ wsX70)
def wsX7_mayBe : List Cond := .code yX7_mayBe cX7_mayBe 6 (some .boolean) :: ([.constantLong RX7 235 (32), .constantLong RX7 237 (126), .fieldLink RX7 20 "LampLineModel" "modes" "[I", .fieldLink RX7 26 "LampLineModel" "address" "[I", .fieldLink RX7 17 "LampLineModel" "width" "[I", .constantLong RX7 111 (512), .methodLink RX7 123 yX7_at, .instanceMethod yX7_at, .selects RX7 yX7_at yX7_at, .initialized RX7, .code yX7_at cX7_at 2 (some .int), .fieldLink RX7 67 "LampLineModel" "frame" "[B", .methodLink RX7 101 yX7_in, .static yX7_in, .code yX7_in cX7_in 6 (some .boolean), .methodLink RX7 177 yX7_two, .instanceMethod yX7_two, .selects RX7 yX7_two yX7_two, .code yX7_two cX7_two 2 (some .int), .methodLink RX7 173 yX7_footprint, .instanceMethod yX7_footprint, .selects RX7 yX7_footprint yX7_footprint, .code yX7_footprint cX7_footprint 2 (some .int), .fieldLink RX7 23 "LampLineModel" "mode" "[I"] ++ wsX70)
def wsX7_setLabel_r1 : List Cond := [Cond.fieldLink RX7 36 "LampLineModel" "labelSize" "[I", Cond.fieldLink RX7 39 "LampLineModel" "label" "[B", Cond.fieldLink RX7 67 "LampLineModel" "frame" "[B", Cond.fieldLink RX7 52 "LampLineModel" "laters" "[I", Cond.fieldLink RX7 55 "LampLineModel" "due" "[I", Cond.fieldLink RX7 129 "LampLineModel" "frames" "I", Cond.fieldLink RX7 58 "LampLineModel" "laterSize" "[I", Cond.fieldLink RX7 61 "LampLineModel" "laterBytes" "[B", Cond.methodLink RX7 212 yX7_refuse, Cond.instanceMethod yX7_refuse, Cond.selects RX7 yX7_refuse yX7_refuse, Cond.initialized RX7, Cond.code yX7_refuse cX7_refuse 4 none, Cond.methodLink RX7 123 yX7_at, Cond.instanceMethod yX7_at, Cond.selects RX7 yX7_at yX7_at, Cond.code yX7_at cX7_at 2 (some .int), Cond.methodLink RX7 177 yX7_two, Cond.instanceMethod yX7_two, Cond.selects RX7 yX7_two yX7_two, Cond.code yX7_two cX7_two 2 (some .int), Cond.methodLink RX7 205 yX7_begin, Cond.instanceMethod yX7_begin, Cond.selects RX7 yX7_begin yX7_begin]
def wsX7_setLabel_r2 : List Cond := [Cond.code yX7_begin cX7_begin 6 none, Cond.fieldLink RX7 160 "LampLineModel" "replySize" "I", Cond.methodLink RX7 180 yX7_put, Cond.instanceMethod yX7_put, Cond.selects RX7 yX7_put yX7_put, Cond.code yX7_put cX7_put 2 none, Cond.fieldLink RX7 73 "LampLineModel" "reply" "[B", Cond.methodLink RX7 153 yX7_ownId, Cond.instanceMethod yX7_ownId, Cond.selects RX7 yX7_ownId yX7_ownId, Cond.code yX7_ownId cX7_ownId 2 (some .long), Cond.fieldLink RX7 7 "LampLineModel" "maker" "[I", Cond.fieldLink RX7 13 "LampLineModel" "rest" "[J", Cond.methodLink RX7 95 yX7_idOf, Cond.static yX7_idOf, Cond.code yX7_idOf cX7_idOf 3 (some .long), Cond.methodLink RX7 183 yX7_putId, Cond.instanceMethod yX7_putId, Cond.selects RX7 yX7_putId yX7_putId, Cond.code yX7_putId cX7_putId 4 none, Cond.methodLink RX7 187 yX7_putTwo, Cond.instanceMethod yX7_putTwo, Cond.selects RX7 yX7_putTwo yX7_putTwo, Cond.code yX7_putTwo cX7_putTwo 2 none]
def wsX7_setLabel_r3 : List Cond := [Cond.methodLink RX7 209 yX7_finish, Cond.instanceMethod yX7_finish, Cond.selects RX7 yX7_finish yX7_finish, Cond.code yX7_finish cX7_finish 4 none, Cond.methodLink RX7 190 yX7_waiting, Cond.instanceMethod yX7_waiting, Cond.selects RX7 yX7_waiting yX7_waiting, Cond.code yX7_waiting cX7_waiting 4 (some .int)]
def wsX7_setLabel : List Cond := .code yX7_setLabel cX7_setLabel 6 none :: ((wsX7_setLabel_r1 ++ (wsX7_setLabel_r2 ++ wsX7_setLabel_r3)) ++ wsX70)
def wsX7_set_r1 : List Cond := [Cond.constant RX7 227 (65535), Cond.fieldLink RX7 23 "LampLineModel" "mode" "[I", Cond.fieldLink RX7 26 "LampLineModel" "address" "[I", Cond.fieldLink RX7 33 "LampLineModel" "shows" "[Z", Cond.methodLink RX7 177 yX7_two, Cond.instanceMethod yX7_two, Cond.selects RX7 yX7_two yX7_two, Cond.initialized RX7, Cond.code yX7_two cX7_two 2 (some .int), Cond.methodLink RX7 123 yX7_at, Cond.instanceMethod yX7_at, Cond.selects RX7 yX7_at yX7_at, Cond.code yX7_at cX7_at 2 (some .int), Cond.fieldLink RX7 67 "LampLineModel" "frame" "[B", Cond.methodLink RX7 212 yX7_refuse, Cond.instanceMethod yX7_refuse, Cond.selects RX7 yX7_refuse yX7_refuse, Cond.code yX7_refuse cX7_refuse 4 none, Cond.methodLink RX7 205 yX7_begin, Cond.instanceMethod yX7_begin, Cond.selects RX7 yX7_begin yX7_begin, Cond.code yX7_begin cX7_begin 6 none, Cond.fieldLink RX7 160 "LampLineModel" "replySize" "I", Cond.methodLink RX7 180 yX7_put]
def wsX7_set_r2 : List Cond := [Cond.instanceMethod yX7_put, Cond.selects RX7 yX7_put yX7_put, Cond.code yX7_put cX7_put 2 none, Cond.fieldLink RX7 73 "LampLineModel" "reply" "[B", Cond.methodLink RX7 153 yX7_ownId, Cond.instanceMethod yX7_ownId, Cond.selects RX7 yX7_ownId yX7_ownId, Cond.code yX7_ownId cX7_ownId 2 (some .long), Cond.fieldLink RX7 7 "LampLineModel" "maker" "[I", Cond.fieldLink RX7 13 "LampLineModel" "rest" "[J", Cond.methodLink RX7 95 yX7_idOf, Cond.static yX7_idOf, Cond.code yX7_idOf cX7_idOf 3 (some .long), Cond.methodLink RX7 183 yX7_putId, Cond.instanceMethod yX7_putId, Cond.selects RX7 yX7_putId yX7_putId, Cond.code yX7_putId cX7_putId 4 none, Cond.methodLink RX7 187 yX7_putTwo, Cond.instanceMethod yX7_putTwo, Cond.selects RX7 yX7_putTwo yX7_putTwo, Cond.code yX7_putTwo cX7_putTwo 2 none, Cond.methodLink RX7 209 yX7_finish, Cond.instanceMethod yX7_finish, Cond.selects RX7 yX7_finish yX7_finish]
def wsX7_set_r3 : List Cond := [Cond.code yX7_finish cX7_finish 4 none, Cond.methodLink RX7 190 yX7_waiting, Cond.instanceMethod yX7_waiting, Cond.selects RX7 yX7_waiting yX7_waiting, Cond.code yX7_waiting cX7_waiting 4 (some .int), Cond.fieldLink RX7 52 "LampLineModel" "laters" "[I", Cond.fieldLink RX7 55 "LampLineModel" "due" "[I", Cond.methodLink RX7 216 yX7_isMatter, Cond.static yX7_isMatter, Cond.code yX7_isMatter cX7_isMatter 1 (some .boolean), Cond.methodLink RX7 228 yX7_mayBe, Cond.instanceMethod yX7_mayBe, Cond.selects RX7 yX7_mayBe yX7_mayBe, Cond.code yX7_mayBe cX7_mayBe 6 (some .boolean), Cond.constantLong RX7 235 (32), Cond.constantLong RX7 237 (126), Cond.fieldLink RX7 20 "LampLineModel" "modes" "[I", Cond.fieldLink RX7 17 "LampLineModel" "width" "[I", Cond.constantLong RX7 111 (512), Cond.methodLink RX7 101 yX7_in, Cond.static yX7_in, Cond.code yX7_in cX7_in 6 (some .boolean), Cond.methodLink RX7 173 yX7_footprint, Cond.instanceMethod yX7_footprint]
def wsX7_set_r4 : List Cond := [Cond.selects RX7 yX7_footprint yX7_footprint, Cond.code yX7_footprint cX7_footprint 2 (some .int), Cond.methodLink RX7 232 yX7_setLabel, Cond.instanceMethod yX7_setLabel, Cond.selects RX7 yX7_setLabel yX7_setLabel, Cond.code yX7_setLabel cX7_setLabel 6 none, Cond.fieldLink RX7 36 "LampLineModel" "labelSize" "[I", Cond.fieldLink RX7 39 "LampLineModel" "label" "[B", Cond.fieldLink RX7 129 "LampLineModel" "frames" "I", Cond.fieldLink RX7 58 "LampLineModel" "laterSize" "[I", Cond.fieldLink RX7 61 "LampLineModel" "laterBytes" "[B"]
def wsX7_set : List Cond := .code yX7_set cX7_set 6 none :: ((wsX7_set_r1 ++ (wsX7_set_r2 ++ (wsX7_set_r3 ++ wsX7_set_r4))) ++ wsX70)
def wsX7_hear_r1 : List Cond := [Cond.fieldLink RX7 43 "LampLineModel" "asked" "[I", Cond.methodLink RX7 123 yX7_at, Cond.instanceMethod yX7_at, Cond.selects RX7 yX7_at yX7_at, Cond.initialized RX7, Cond.code yX7_at cX7_at 2 (some .int), Cond.fieldLink RX7 67 "LampLineModel" "frame" "[B", Cond.methodLink RX7 193 yX7_hearSearch, Cond.instanceMethod yX7_hearSearch, Cond.selects RX7 yX7_hearSearch yX7_hearSearch, Cond.code yX7_hearSearch cX7_hearSearch 7 none, Cond.fieldLink RX7 29 "LampLineModel" "silent" "[Z", Cond.methodLink RX7 177 yX7_two, Cond.instanceMethod yX7_two, Cond.selects RX7 yX7_two yX7_two, Cond.code yX7_two cX7_two 2 (some .int), Cond.methodLink RX7 153 yX7_ownId, Cond.instanceMethod yX7_ownId, Cond.selects RX7 yX7_ownId yX7_ownId, Cond.code yX7_ownId cX7_ownId 2 (some .long), Cond.fieldLink RX7 7 "LampLineModel" "maker" "[I", Cond.fieldLink RX7 13 "LampLineModel" "rest" "[J", Cond.methodLink RX7 95 yX7_idOf, Cond.static yX7_idOf]
def wsX7_hear_r2 : List Cond := [Cond.code yX7_idOf cX7_idOf 3 (some .long), Cond.methodLink RX7 149 yX7_six, Cond.instanceMethod yX7_six, Cond.selects RX7 yX7_six yX7_six, Cond.code yX7_six cX7_six 5 (some .long), Cond.constantLong RX7 127 (256), Cond.methodLink RX7 202 yX7_show, Cond.instanceMethod yX7_show, Cond.selects RX7 yX7_show yX7_show, Cond.code yX7_show cX7_show 6 none, Cond.fieldLink RX7 160 "LampLineModel" "replySize" "I", Cond.methodLink RX7 180 yX7_put, Cond.instanceMethod yX7_put, Cond.selects RX7 yX7_put yX7_put, Cond.code yX7_put cX7_put 2 none, Cond.fieldLink RX7 73 "LampLineModel" "reply" "[B", Cond.methodLink RX7 205 yX7_begin, Cond.instanceMethod yX7_begin, Cond.selects RX7 yX7_begin yX7_begin, Cond.code yX7_begin cX7_begin 6 none, Cond.methodLink RX7 183 yX7_putId, Cond.instanceMethod yX7_putId, Cond.selects RX7 yX7_putId yX7_putId, Cond.code yX7_putId cX7_putId 4 none]
def wsX7_hear_r3 : List Cond := [Cond.methodLink RX7 187 yX7_putTwo, Cond.instanceMethod yX7_putTwo, Cond.selects RX7 yX7_putTwo yX7_putTwo, Cond.code yX7_putTwo cX7_putTwo 2 none, Cond.methodLink RX7 209 yX7_finish, Cond.instanceMethod yX7_finish, Cond.selects RX7 yX7_finish yX7_finish, Cond.code yX7_finish cX7_finish 4 none, Cond.methodLink RX7 190 yX7_waiting, Cond.instanceMethod yX7_waiting, Cond.selects RX7 yX7_waiting yX7_waiting, Cond.code yX7_waiting cX7_waiting 4 (some .int), Cond.fieldLink RX7 52 "LampLineModel" "laters" "[I", Cond.fieldLink RX7 55 "LampLineModel" "due" "[I", Cond.methodLink RX7 196 yX7_get, Cond.instanceMethod yX7_get, Cond.selects RX7 yX7_get yX7_get, Cond.code yX7_get cX7_get 3 none, Cond.methodLink RX7 212 yX7_refuse, Cond.instanceMethod yX7_refuse, Cond.selects RX7 yX7_refuse yX7_refuse, Cond.code yX7_refuse cX7_refuse 4 none, Cond.methodLink RX7 216 yX7_isMatter, Cond.static yX7_isMatter]
def wsX7_hear_r4 : List Cond := [Cond.code yX7_isMatter cX7_isMatter 1 (some .boolean), Cond.methodLink RX7 220 yX7_getWaiting, Cond.instanceMethod yX7_getWaiting, Cond.selects RX7 yX7_getWaiting yX7_getWaiting, Cond.code yX7_getWaiting cX7_getWaiting 6 none, Cond.fieldLink RX7 58 "LampLineModel" "laterSize" "[I", Cond.fieldLink RX7 61 "LampLineModel" "laterBytes" "[B", Cond.methodLink RX7 223 yX7_tell, Cond.instanceMethod yX7_tell, Cond.selects RX7 yX7_tell yX7_tell, Cond.code yX7_tell cX7_tell 5 none, Cond.fieldLink RX7 23 "LampLineModel" "mode" "[I", Cond.fieldLink RX7 20 "LampLineModel" "modes" "[I", Cond.fieldLink RX7 26 "LampLineModel" "address" "[I", Cond.constant RX7 176 (65536), Cond.fieldLink RX7 36 "LampLineModel" "labelSize" "[I", Cond.fieldLink RX7 39 "LampLineModel" "label" "[B", Cond.fieldLink RX7 33 "LampLineModel" "shows" "[Z", Cond.methodLink RX7 173 yX7_footprint, Cond.instanceMethod yX7_footprint, Cond.selects RX7 yX7_footprint yX7_footprint, Cond.code yX7_footprint cX7_footprint 2 (some .int), Cond.fieldLink RX7 17 "LampLineModel" "width" "[I", Cond.methodLink RX7 199 yX7_set]
def wsX7_hear_r5 : List Cond := [Cond.instanceMethod yX7_set, Cond.selects RX7 yX7_set yX7_set, Cond.code yX7_set cX7_set 6 none, Cond.constant RX7 227 (65535), Cond.methodLink RX7 228 yX7_mayBe, Cond.instanceMethod yX7_mayBe, Cond.selects RX7 yX7_mayBe yX7_mayBe, Cond.code yX7_mayBe cX7_mayBe 6 (some .boolean), Cond.constantLong RX7 235 (32), Cond.constantLong RX7 237 (126), Cond.constantLong RX7 111 (512), Cond.methodLink RX7 101 yX7_in, Cond.static yX7_in, Cond.code yX7_in cX7_in 6 (some .boolean), Cond.methodLink RX7 232 yX7_setLabel, Cond.instanceMethod yX7_setLabel, Cond.selects RX7 yX7_setLabel yX7_setLabel, Cond.code yX7_setLabel cX7_setLabel 6 none, Cond.fieldLink RX7 129 "LampLineModel" "frames" "I"]
def wsX7_hear : List Cond := .code yX7_hear cX7_hear 3 none :: ((wsX7_hear_r1 ++ (wsX7_hear_r2 ++ (wsX7_hear_r3 ++ (wsX7_hear_r4 ++ wsX7_hear_r5)))) ++ wsX70)
def wsX7_fall : List Cond := .code yX7_fall cX7_fall 2 none :: ([.fieldLink RX7 160 "LampLineModel" "replySize" "I", .fieldLink RX7 135 "LampLineModel" "answered" "I", .fieldLink RX7 70 "LampLineModel" "answer" "[B", .fieldLink RX7 73 "LampLineModel" "reply" "[B"] ++ wsX70)
def wsX7_look_r1 : List Cond := [Cond.fieldLink RX7 129 "LampLineModel" "frames" "I", Cond.fieldLink RX7 135 "LampLineModel" "answered" "I", Cond.fieldLink RX7 138 "LampLineModel" "frameSize" "I", Cond.fieldLink RX7 113 "LampLineModel" "lamps" "I", Cond.constantLong RX7 156 (4294967295), Cond.constantLong RX7 158 (65535), Cond.fieldLink RX7 7 "LampLineModel" "maker" "[I", Cond.fieldLink RX7 160 "LampLineModel" "replySize" "I", Cond.fieldLink RX7 170 "LampLineModel" "spoils" "I", Cond.fieldLink RX7 76 "LampLineModel" "spoilAt" "[I", Cond.fieldLink RX7 70 "LampLineModel" "answer" "[B", Cond.fieldLink RX7 79 "LampLineModel" "spoilMask" "[I", Cond.methodLink RX7 132 yX7_doDue, Cond.instanceMethod yX7_doDue, Cond.selects RX7 yX7_doDue yX7_doDue, Cond.initialized RX7, Cond.code yX7_doDue cX7_doDue 5 none, Cond.fieldLink RX7 52 "LampLineModel" "laters" "[I", Cond.fieldLink RX7 55 "LampLineModel" "due" "[I", Cond.fieldLink RX7 36 "LampLineModel" "labelSize" "[I", Cond.fieldLink RX7 58 "LampLineModel" "laterSize" "[I", Cond.fieldLink RX7 39 "LampLineModel" "label" "[B", Cond.fieldLink RX7 61 "LampLineModel" "laterBytes" "[B", Cond.methodLink RX7 123 yX7_at]
def wsX7_look_r2 : List Cond := [Cond.instanceMethod yX7_at, Cond.selects RX7 yX7_at yX7_at, Cond.code yX7_at cX7_at 2 (some .int), Cond.fieldLink RX7 67 "LampLineModel" "frame" "[B", Cond.methodLink RX7 141 yX7_takeLevels, Cond.instanceMethod yX7_takeLevels, Cond.selects RX7 yX7_takeLevels yX7_takeLevels, Cond.code yX7_takeLevels cX7_takeLevels 3 none, Cond.fieldLink RX7 26 "LampLineModel" "address" "[I", Cond.fieldLink RX7 46 "LampLineModel" "levels" "[I", Cond.fieldLink RX7 49 "LampLineModel" "lit" "[I", Cond.methodLink RX7 173 yX7_footprint, Cond.instanceMethod yX7_footprint, Cond.selects RX7 yX7_footprint yX7_footprint, Cond.code yX7_footprint cX7_footprint 2 (some .int), Cond.fieldLink RX7 17 "LampLineModel" "width" "[I", Cond.fieldLink RX7 23 "LampLineModel" "mode" "[I", Cond.methodLink RX7 145 yX7_isPacket, Cond.instanceMethod yX7_isPacket, Cond.selects RX7 yX7_isPacket yX7_isPacket, Cond.code yX7_isPacket cX7_isPacket 3 (some .boolean), Cond.constant RX7 176 (65536), Cond.methodLink RX7 177 yX7_two, Cond.instanceMethod yX7_two]
def wsX7_look_r3 : List Cond := [Cond.selects RX7 yX7_two yX7_two, Cond.code yX7_two cX7_two 2 (some .int), Cond.methodLink RX7 149 yX7_six, Cond.instanceMethod yX7_six, Cond.selects RX7 yX7_six yX7_six, Cond.code yX7_six cX7_six 5 (some .long), Cond.constantLong RX7 127 (256), Cond.methodLink RX7 153 yX7_ownId, Cond.instanceMethod yX7_ownId, Cond.selects RX7 yX7_ownId yX7_ownId, Cond.code yX7_ownId cX7_ownId 2 (some .long), Cond.fieldLink RX7 13 "LampLineModel" "rest" "[J", Cond.methodLink RX7 95 yX7_idOf, Cond.static yX7_idOf, Cond.code yX7_idOf cX7_idOf 3 (some .long), Cond.methodLink RX7 163 yX7_hear, Cond.instanceMethod yX7_hear, Cond.selects RX7 yX7_hear yX7_hear, Cond.code yX7_hear cX7_hear 3 none, Cond.fieldLink RX7 43 "LampLineModel" "asked" "[I", Cond.methodLink RX7 193 yX7_hearSearch, Cond.instanceMethod yX7_hearSearch, Cond.selects RX7 yX7_hearSearch yX7_hearSearch, Cond.code yX7_hearSearch cX7_hearSearch 7 none]
def wsX7_look_r4 : List Cond := [Cond.fieldLink RX7 29 "LampLineModel" "silent" "[Z", Cond.methodLink RX7 202 yX7_show, Cond.instanceMethod yX7_show, Cond.selects RX7 yX7_show yX7_show, Cond.code yX7_show cX7_show 6 none, Cond.methodLink RX7 180 yX7_put, Cond.instanceMethod yX7_put, Cond.selects RX7 yX7_put yX7_put, Cond.code yX7_put cX7_put 2 none, Cond.fieldLink RX7 73 "LampLineModel" "reply" "[B", Cond.methodLink RX7 205 yX7_begin, Cond.instanceMethod yX7_begin, Cond.selects RX7 yX7_begin yX7_begin, Cond.code yX7_begin cX7_begin 6 none, Cond.methodLink RX7 183 yX7_putId, Cond.instanceMethod yX7_putId, Cond.selects RX7 yX7_putId yX7_putId, Cond.code yX7_putId cX7_putId 4 none, Cond.methodLink RX7 187 yX7_putTwo, Cond.instanceMethod yX7_putTwo, Cond.selects RX7 yX7_putTwo yX7_putTwo, Cond.code yX7_putTwo cX7_putTwo 2 none, Cond.methodLink RX7 209 yX7_finish, Cond.instanceMethod yX7_finish]
def wsX7_look_r5 : List Cond := [Cond.selects RX7 yX7_finish yX7_finish, Cond.code yX7_finish cX7_finish 4 none, Cond.methodLink RX7 190 yX7_waiting, Cond.instanceMethod yX7_waiting, Cond.selects RX7 yX7_waiting yX7_waiting, Cond.code yX7_waiting cX7_waiting 4 (some .int), Cond.methodLink RX7 196 yX7_get, Cond.instanceMethod yX7_get, Cond.selects RX7 yX7_get yX7_get, Cond.code yX7_get cX7_get 3 none, Cond.methodLink RX7 212 yX7_refuse, Cond.instanceMethod yX7_refuse, Cond.selects RX7 yX7_refuse yX7_refuse, Cond.code yX7_refuse cX7_refuse 4 none, Cond.methodLink RX7 216 yX7_isMatter, Cond.static yX7_isMatter, Cond.code yX7_isMatter cX7_isMatter 1 (some .boolean), Cond.methodLink RX7 220 yX7_getWaiting, Cond.instanceMethod yX7_getWaiting, Cond.selects RX7 yX7_getWaiting yX7_getWaiting, Cond.code yX7_getWaiting cX7_getWaiting 6 none, Cond.methodLink RX7 223 yX7_tell, Cond.instanceMethod yX7_tell, Cond.selects RX7 yX7_tell yX7_tell]
def wsX7_look_r6 : List Cond := [Cond.code yX7_tell cX7_tell 5 none, Cond.fieldLink RX7 20 "LampLineModel" "modes" "[I", Cond.fieldLink RX7 33 "LampLineModel" "shows" "[Z", Cond.methodLink RX7 199 yX7_set, Cond.instanceMethod yX7_set, Cond.selects RX7 yX7_set yX7_set, Cond.code yX7_set cX7_set 6 none, Cond.constant RX7 227 (65535), Cond.methodLink RX7 228 yX7_mayBe, Cond.instanceMethod yX7_mayBe, Cond.selects RX7 yX7_mayBe yX7_mayBe, Cond.code yX7_mayBe cX7_mayBe 6 (some .boolean), Cond.constantLong RX7 235 (32), Cond.constantLong RX7 237 (126), Cond.constantLong RX7 111 (512), Cond.methodLink RX7 101 yX7_in, Cond.static yX7_in, Cond.code yX7_in cX7_in 6 (some .boolean), Cond.methodLink RX7 232 yX7_setLabel, Cond.instanceMethod yX7_setLabel, Cond.selects RX7 yX7_setLabel yX7_setLabel, Cond.code yX7_setLabel cX7_setLabel 6 none, Cond.methodLink RX7 167 yX7_fall, Cond.instanceMethod yX7_fall]
def wsX7_look_r7 : List Cond := [Cond.selects RX7 yX7_fall yX7_fall, Cond.code yX7_fall cX7_fall 2 none]
def wsX7_look : List Cond := .code yX7_look cX7_look 6 none :: ((wsX7_look_r1 ++ (wsX7_look_r2 ++ (wsX7_look_r3 ++ (wsX7_look_r4 ++ (wsX7_look_r5 ++ (wsX7_look_r6 ++ wsX7_look_r7)))))) ++ wsX70)
def wsX7_send_r1 : List Cond := [Cond.fieldLink RX7 91 "LampLineModel" "thrown" "I", Cond.fieldLink RX7 116 "LampLineModel" "taped" "I", Cond.fieldLink RX7 138 "LampLineModel" "frameSize" "I", Cond.fieldLink RX7 67 "LampLineModel" "frame" "[B", Cond.fieldLink RX7 64 "LampLineModel" "tape" "[B", Cond.fieldLink RX7 135 "LampLineModel" "answered" "I", Cond.methodLink RX7 239 yX7_look, Cond.instanceMethod yX7_look, Cond.selects RX7 yX7_look yX7_look, Cond.initialized RX7, Cond.code yX7_look cX7_look 6 none, Cond.fieldLink RX7 129 "LampLineModel" "frames" "I", Cond.fieldLink RX7 113 "LampLineModel" "lamps" "I", Cond.constantLong RX7 156 (4294967295), Cond.constantLong RX7 158 (65535), Cond.fieldLink RX7 7 "LampLineModel" "maker" "[I", Cond.fieldLink RX7 160 "LampLineModel" "replySize" "I", Cond.fieldLink RX7 170 "LampLineModel" "spoils" "I", Cond.fieldLink RX7 76 "LampLineModel" "spoilAt" "[I", Cond.fieldLink RX7 70 "LampLineModel" "answer" "[B", Cond.fieldLink RX7 79 "LampLineModel" "spoilMask" "[I", Cond.methodLink RX7 132 yX7_doDue, Cond.instanceMethod yX7_doDue, Cond.selects RX7 yX7_doDue yX7_doDue]
def wsX7_send_r2 : List Cond := [Cond.code yX7_doDue cX7_doDue 5 none, Cond.fieldLink RX7 52 "LampLineModel" "laters" "[I", Cond.fieldLink RX7 55 "LampLineModel" "due" "[I", Cond.fieldLink RX7 36 "LampLineModel" "labelSize" "[I", Cond.fieldLink RX7 58 "LampLineModel" "laterSize" "[I", Cond.fieldLink RX7 39 "LampLineModel" "label" "[B", Cond.fieldLink RX7 61 "LampLineModel" "laterBytes" "[B", Cond.methodLink RX7 123 yX7_at, Cond.instanceMethod yX7_at, Cond.selects RX7 yX7_at yX7_at, Cond.code yX7_at cX7_at 2 (some .int), Cond.methodLink RX7 141 yX7_takeLevels, Cond.instanceMethod yX7_takeLevels, Cond.selects RX7 yX7_takeLevels yX7_takeLevels, Cond.code yX7_takeLevels cX7_takeLevels 3 none, Cond.fieldLink RX7 26 "LampLineModel" "address" "[I", Cond.fieldLink RX7 46 "LampLineModel" "levels" "[I", Cond.fieldLink RX7 49 "LampLineModel" "lit" "[I", Cond.methodLink RX7 173 yX7_footprint, Cond.instanceMethod yX7_footprint, Cond.selects RX7 yX7_footprint yX7_footprint, Cond.code yX7_footprint cX7_footprint 2 (some .int), Cond.fieldLink RX7 17 "LampLineModel" "width" "[I", Cond.fieldLink RX7 23 "LampLineModel" "mode" "[I"]
def wsX7_send_r3 : List Cond := [Cond.methodLink RX7 145 yX7_isPacket, Cond.instanceMethod yX7_isPacket, Cond.selects RX7 yX7_isPacket yX7_isPacket, Cond.code yX7_isPacket cX7_isPacket 3 (some .boolean), Cond.constant RX7 176 (65536), Cond.methodLink RX7 177 yX7_two, Cond.instanceMethod yX7_two, Cond.selects RX7 yX7_two yX7_two, Cond.code yX7_two cX7_two 2 (some .int), Cond.methodLink RX7 149 yX7_six, Cond.instanceMethod yX7_six, Cond.selects RX7 yX7_six yX7_six, Cond.code yX7_six cX7_six 5 (some .long), Cond.constantLong RX7 127 (256), Cond.methodLink RX7 153 yX7_ownId, Cond.instanceMethod yX7_ownId, Cond.selects RX7 yX7_ownId yX7_ownId, Cond.code yX7_ownId cX7_ownId 2 (some .long), Cond.fieldLink RX7 13 "LampLineModel" "rest" "[J", Cond.methodLink RX7 95 yX7_idOf, Cond.static yX7_idOf, Cond.code yX7_idOf cX7_idOf 3 (some .long), Cond.methodLink RX7 163 yX7_hear, Cond.instanceMethod yX7_hear]
def wsX7_send_r4 : List Cond := [Cond.selects RX7 yX7_hear yX7_hear, Cond.code yX7_hear cX7_hear 3 none, Cond.fieldLink RX7 43 "LampLineModel" "asked" "[I", Cond.methodLink RX7 193 yX7_hearSearch, Cond.instanceMethod yX7_hearSearch, Cond.selects RX7 yX7_hearSearch yX7_hearSearch, Cond.code yX7_hearSearch cX7_hearSearch 7 none, Cond.fieldLink RX7 29 "LampLineModel" "silent" "[Z", Cond.methodLink RX7 202 yX7_show, Cond.instanceMethod yX7_show, Cond.selects RX7 yX7_show yX7_show, Cond.code yX7_show cX7_show 6 none, Cond.methodLink RX7 180 yX7_put, Cond.instanceMethod yX7_put, Cond.selects RX7 yX7_put yX7_put, Cond.code yX7_put cX7_put 2 none, Cond.fieldLink RX7 73 "LampLineModel" "reply" "[B", Cond.methodLink RX7 205 yX7_begin, Cond.instanceMethod yX7_begin, Cond.selects RX7 yX7_begin yX7_begin, Cond.code yX7_begin cX7_begin 6 none, Cond.methodLink RX7 183 yX7_putId, Cond.instanceMethod yX7_putId, Cond.selects RX7 yX7_putId yX7_putId]
def wsX7_send_r5 : List Cond := [Cond.code yX7_putId cX7_putId 4 none, Cond.methodLink RX7 187 yX7_putTwo, Cond.instanceMethod yX7_putTwo, Cond.selects RX7 yX7_putTwo yX7_putTwo, Cond.code yX7_putTwo cX7_putTwo 2 none, Cond.methodLink RX7 209 yX7_finish, Cond.instanceMethod yX7_finish, Cond.selects RX7 yX7_finish yX7_finish, Cond.code yX7_finish cX7_finish 4 none, Cond.methodLink RX7 190 yX7_waiting, Cond.instanceMethod yX7_waiting, Cond.selects RX7 yX7_waiting yX7_waiting, Cond.code yX7_waiting cX7_waiting 4 (some .int), Cond.methodLink RX7 196 yX7_get, Cond.instanceMethod yX7_get, Cond.selects RX7 yX7_get yX7_get, Cond.code yX7_get cX7_get 3 none, Cond.methodLink RX7 212 yX7_refuse, Cond.instanceMethod yX7_refuse, Cond.selects RX7 yX7_refuse yX7_refuse, Cond.code yX7_refuse cX7_refuse 4 none, Cond.methodLink RX7 216 yX7_isMatter, Cond.static yX7_isMatter, Cond.code yX7_isMatter cX7_isMatter 1 (some .boolean)]
def wsX7_send_r6 : List Cond := [Cond.methodLink RX7 220 yX7_getWaiting, Cond.instanceMethod yX7_getWaiting, Cond.selects RX7 yX7_getWaiting yX7_getWaiting, Cond.code yX7_getWaiting cX7_getWaiting 6 none, Cond.methodLink RX7 223 yX7_tell, Cond.instanceMethod yX7_tell, Cond.selects RX7 yX7_tell yX7_tell, Cond.code yX7_tell cX7_tell 5 none, Cond.fieldLink RX7 20 "LampLineModel" "modes" "[I", Cond.fieldLink RX7 33 "LampLineModel" "shows" "[Z", Cond.methodLink RX7 199 yX7_set, Cond.instanceMethod yX7_set, Cond.selects RX7 yX7_set yX7_set, Cond.code yX7_set cX7_set 6 none, Cond.constant RX7 227 (65535), Cond.methodLink RX7 228 yX7_mayBe, Cond.instanceMethod yX7_mayBe, Cond.selects RX7 yX7_mayBe yX7_mayBe, Cond.code yX7_mayBe cX7_mayBe 6 (some .boolean), Cond.constantLong RX7 235 (32), Cond.constantLong RX7 237 (126), Cond.constantLong RX7 111 (512), Cond.methodLink RX7 101 yX7_in, Cond.static yX7_in]
def wsX7_send_r7 : List Cond := [Cond.code yX7_in cX7_in 6 (some .boolean), Cond.methodLink RX7 232 yX7_setLabel, Cond.instanceMethod yX7_setLabel, Cond.selects RX7 yX7_setLabel yX7_setLabel, Cond.code yX7_setLabel cX7_setLabel 6 none, Cond.methodLink RX7 167 yX7_fall, Cond.instanceMethod yX7_fall, Cond.selects RX7 yX7_fall yX7_fall, Cond.code yX7_fall cX7_fall 2 none]
def wsX7_send : List Cond := .code yX7_send cX7_send 2 (some .int) :: ((wsX7_send_r1 ++ (wsX7_send_r2 ++ (wsX7_send_r3 ++ (wsX7_send_r4 ++ (wsX7_send_r5 ++ (wsX7_send_r6 ++ wsX7_send_r7)))))) ++ wsX70)
def wsX7_answer : List Cond := .code yX7_answer cX7_answer 2 (some .int) :: ([.fieldLink RX7 135 "LampLineModel" "answered" "I", .fieldLink RX7 70 "LampLineModel" "answer" "[B", .methodLink RX7 101 yX7_in, .static yX7_in, .initialized RX7, .code yX7_in cX7_in 6 (some .boolean), .methodLink RX7 119 yX7_goes, .instanceMethod yX7_goes, .selects RX7 yX7_goes yX7_goes, .code yX7_goes cX7_goes 2 (some .boolean), .fieldLink RX7 91 "LampLineModel" "thrown" "I"] ++ wsX70)
def wsX7_write : List Cond := .code yX7_write cX7_write 2 none :: ([.fieldLink RX7 67 "LampLineModel" "frame" "[B", .fieldLink RX7 138 "LampLineModel" "frameSize" "I"] ++ wsX70)
def wsX7_writeSix : List Cond := .code yX7_writeSix cX7_writeSix 4 none :: ([.methodLink RX7 242 yX7_write, .instanceMethod yX7_write, .selects RX7 yX7_write yX7_write, .initialized RX7, .code yX7_write cX7_write 2 none, .fieldLink RX7 67 "LampLineModel" "frame" "[B", .fieldLink RX7 138 "LampLineModel" "frameSize" "I"] ++ wsX70)
def wsX7_beginPacket : List Cond := .code yX7_beginPacket cX7_beginPacket 6 none :: ([.fieldLink RX7 245 "LampLineModel" "counted" "I", .fieldLink RX7 138 "LampLineModel" "frameSize" "I", .methodLink RX7 242 yX7_write, .instanceMethod yX7_write, .selects RX7 yX7_write yX7_write, .initialized RX7, .code yX7_write cX7_write 2 none, .fieldLink RX7 67 "LampLineModel" "frame" "[B", .methodLink RX7 248 yX7_writeSix, .instanceMethod yX7_writeSix, .selects RX7 yX7_writeSix yX7_writeSix, .code yX7_writeSix cX7_writeSix 4 none, .methodLink RX7 95 yX7_idOf, .static yX7_idOf, .code yX7_idOf cX7_idOf 3 (some .long)] ++ wsX70)
def wsX7_sendOff_r1 : List Cond := [Cond.fieldLink RX7 67 "LampLineModel" "frame" "[B", Cond.fieldLink RX7 138 "LampLineModel" "frameSize" "I", Cond.methodLink RX7 123 yX7_at, Cond.instanceMethod yX7_at, Cond.selects RX7 yX7_at yX7_at, Cond.initialized RX7, Cond.code yX7_at cX7_at 2 (some .int), Cond.methodLink RX7 242 yX7_write, Cond.instanceMethod yX7_write, Cond.selects RX7 yX7_write yX7_write, Cond.code yX7_write cX7_write 2 none, Cond.methodLink RX7 239 yX7_look, Cond.instanceMethod yX7_look, Cond.selects RX7 yX7_look yX7_look, Cond.code yX7_look cX7_look 6 none, Cond.fieldLink RX7 129 "LampLineModel" "frames" "I", Cond.fieldLink RX7 135 "LampLineModel" "answered" "I", Cond.fieldLink RX7 113 "LampLineModel" "lamps" "I", Cond.constantLong RX7 156 (4294967295), Cond.constantLong RX7 158 (65535), Cond.fieldLink RX7 7 "LampLineModel" "maker" "[I", Cond.fieldLink RX7 160 "LampLineModel" "replySize" "I", Cond.fieldLink RX7 170 "LampLineModel" "spoils" "I", Cond.fieldLink RX7 76 "LampLineModel" "spoilAt" "[I"]
def wsX7_sendOff_r2 : List Cond := [Cond.fieldLink RX7 70 "LampLineModel" "answer" "[B", Cond.fieldLink RX7 79 "LampLineModel" "spoilMask" "[I", Cond.methodLink RX7 132 yX7_doDue, Cond.instanceMethod yX7_doDue, Cond.selects RX7 yX7_doDue yX7_doDue, Cond.code yX7_doDue cX7_doDue 5 none, Cond.fieldLink RX7 52 "LampLineModel" "laters" "[I", Cond.fieldLink RX7 55 "LampLineModel" "due" "[I", Cond.fieldLink RX7 36 "LampLineModel" "labelSize" "[I", Cond.fieldLink RX7 58 "LampLineModel" "laterSize" "[I", Cond.fieldLink RX7 39 "LampLineModel" "label" "[B", Cond.fieldLink RX7 61 "LampLineModel" "laterBytes" "[B", Cond.methodLink RX7 141 yX7_takeLevels, Cond.instanceMethod yX7_takeLevels, Cond.selects RX7 yX7_takeLevels yX7_takeLevels, Cond.code yX7_takeLevels cX7_takeLevels 3 none, Cond.fieldLink RX7 26 "LampLineModel" "address" "[I", Cond.fieldLink RX7 46 "LampLineModel" "levels" "[I", Cond.fieldLink RX7 49 "LampLineModel" "lit" "[I", Cond.methodLink RX7 173 yX7_footprint, Cond.instanceMethod yX7_footprint, Cond.selects RX7 yX7_footprint yX7_footprint, Cond.code yX7_footprint cX7_footprint 2 (some .int), Cond.fieldLink RX7 17 "LampLineModel" "width" "[I"]
def wsX7_sendOff_r3 : List Cond := [Cond.fieldLink RX7 23 "LampLineModel" "mode" "[I", Cond.methodLink RX7 145 yX7_isPacket, Cond.instanceMethod yX7_isPacket, Cond.selects RX7 yX7_isPacket yX7_isPacket, Cond.code yX7_isPacket cX7_isPacket 3 (some .boolean), Cond.constant RX7 176 (65536), Cond.methodLink RX7 177 yX7_two, Cond.instanceMethod yX7_two, Cond.selects RX7 yX7_two yX7_two, Cond.code yX7_two cX7_two 2 (some .int), Cond.methodLink RX7 149 yX7_six, Cond.instanceMethod yX7_six, Cond.selects RX7 yX7_six yX7_six, Cond.code yX7_six cX7_six 5 (some .long), Cond.constantLong RX7 127 (256), Cond.methodLink RX7 153 yX7_ownId, Cond.instanceMethod yX7_ownId, Cond.selects RX7 yX7_ownId yX7_ownId, Cond.code yX7_ownId cX7_ownId 2 (some .long), Cond.fieldLink RX7 13 "LampLineModel" "rest" "[J", Cond.methodLink RX7 95 yX7_idOf, Cond.static yX7_idOf, Cond.code yX7_idOf cX7_idOf 3 (some .long), Cond.methodLink RX7 163 yX7_hear]
def wsX7_sendOff_r4 : List Cond := [Cond.instanceMethod yX7_hear, Cond.selects RX7 yX7_hear yX7_hear, Cond.code yX7_hear cX7_hear 3 none, Cond.fieldLink RX7 43 "LampLineModel" "asked" "[I", Cond.methodLink RX7 193 yX7_hearSearch, Cond.instanceMethod yX7_hearSearch, Cond.selects RX7 yX7_hearSearch yX7_hearSearch, Cond.code yX7_hearSearch cX7_hearSearch 7 none, Cond.fieldLink RX7 29 "LampLineModel" "silent" "[Z", Cond.methodLink RX7 202 yX7_show, Cond.instanceMethod yX7_show, Cond.selects RX7 yX7_show yX7_show, Cond.code yX7_show cX7_show 6 none, Cond.methodLink RX7 180 yX7_put, Cond.instanceMethod yX7_put, Cond.selects RX7 yX7_put yX7_put, Cond.code yX7_put cX7_put 2 none, Cond.fieldLink RX7 73 "LampLineModel" "reply" "[B", Cond.methodLink RX7 205 yX7_begin, Cond.instanceMethod yX7_begin, Cond.selects RX7 yX7_begin yX7_begin, Cond.code yX7_begin cX7_begin 6 none, Cond.methodLink RX7 183 yX7_putId, Cond.instanceMethod yX7_putId]
def wsX7_sendOff_r5 : List Cond := [Cond.selects RX7 yX7_putId yX7_putId, Cond.code yX7_putId cX7_putId 4 none, Cond.methodLink RX7 187 yX7_putTwo, Cond.instanceMethod yX7_putTwo, Cond.selects RX7 yX7_putTwo yX7_putTwo, Cond.code yX7_putTwo cX7_putTwo 2 none, Cond.methodLink RX7 209 yX7_finish, Cond.instanceMethod yX7_finish, Cond.selects RX7 yX7_finish yX7_finish, Cond.code yX7_finish cX7_finish 4 none, Cond.methodLink RX7 190 yX7_waiting, Cond.instanceMethod yX7_waiting, Cond.selects RX7 yX7_waiting yX7_waiting, Cond.code yX7_waiting cX7_waiting 4 (some .int), Cond.methodLink RX7 196 yX7_get, Cond.instanceMethod yX7_get, Cond.selects RX7 yX7_get yX7_get, Cond.code yX7_get cX7_get 3 none, Cond.methodLink RX7 212 yX7_refuse, Cond.instanceMethod yX7_refuse, Cond.selects RX7 yX7_refuse yX7_refuse, Cond.code yX7_refuse cX7_refuse 4 none, Cond.methodLink RX7 216 yX7_isMatter, Cond.static yX7_isMatter]
def wsX7_sendOff_r6 : List Cond := [Cond.code yX7_isMatter cX7_isMatter 1 (some .boolean), Cond.methodLink RX7 220 yX7_getWaiting, Cond.instanceMethod yX7_getWaiting, Cond.selects RX7 yX7_getWaiting yX7_getWaiting, Cond.code yX7_getWaiting cX7_getWaiting 6 none, Cond.methodLink RX7 223 yX7_tell, Cond.instanceMethod yX7_tell, Cond.selects RX7 yX7_tell yX7_tell, Cond.code yX7_tell cX7_tell 5 none, Cond.fieldLink RX7 20 "LampLineModel" "modes" "[I", Cond.fieldLink RX7 33 "LampLineModel" "shows" "[Z", Cond.methodLink RX7 199 yX7_set, Cond.instanceMethod yX7_set, Cond.selects RX7 yX7_set yX7_set, Cond.code yX7_set cX7_set 6 none, Cond.constant RX7 227 (65535), Cond.methodLink RX7 228 yX7_mayBe, Cond.instanceMethod yX7_mayBe, Cond.selects RX7 yX7_mayBe yX7_mayBe, Cond.code yX7_mayBe cX7_mayBe 6 (some .boolean), Cond.constantLong RX7 235 (32), Cond.constantLong RX7 237 (126), Cond.constantLong RX7 111 (512), Cond.methodLink RX7 101 yX7_in]
def wsX7_sendOff_r7 : List Cond := [Cond.static yX7_in, Cond.code yX7_in cX7_in 6 (some .boolean), Cond.methodLink RX7 232 yX7_setLabel, Cond.instanceMethod yX7_setLabel, Cond.selects RX7 yX7_setLabel yX7_setLabel, Cond.code yX7_setLabel cX7_setLabel 6 none, Cond.methodLink RX7 167 yX7_fall, Cond.instanceMethod yX7_fall, Cond.selects RX7 yX7_fall yX7_fall, Cond.code yX7_fall cX7_fall 2 none]
def wsX7_sendOff : List Cond := .code yX7_sendOff cX7_sendOff 3 none :: ((wsX7_sendOff_r1 ++ (wsX7_sendOff_r2 ++ (wsX7_sendOff_r3 ++ (wsX7_sendOff_r4 ++ (wsX7_sendOff_r5 ++ (wsX7_sendOff_r6 ++ wsX7_sendOff_r7)))))) ++ wsX70)
def wsX7_heard : List Cond := .code yX7_heard cX7_heard 2 (some .int) :: ([.fieldLink RX7 70 "LampLineModel" "answer" "[B"] ++ wsX70)
def wsX7_heardSix : List Cond := .code yX7_heardSix cX7_heardSix 5 (some .long) :: ([.constantLong RX7 127 (256), .methodLink RX7 251 yX7_heard, .instanceMethod yX7_heard, .selects RX7 yX7_heard yX7_heard, .initialized RX7, .code yX7_heard cX7_heard 2 (some .int), .fieldLink RX7 70 "LampLineModel" "answer" "[B"] ++ wsX70)
def wsX7_isReply : List Cond := .code yX7_isReply cX7_isReply 5 (some .boolean) :: ([.fieldLink RX7 135 "LampLineModel" "answered" "I", .constant RX7 176 (65536), .fieldLink RX7 245 "LampLineModel" "counted" "I", .methodLink RX7 251 yX7_heard, .instanceMethod yX7_heard, .selects RX7 yX7_heard yX7_heard, .initialized RX7, .code yX7_heard cX7_heard 2 (some .int), .fieldLink RX7 70 "LampLineModel" "answer" "[B", .methodLink RX7 254 yX7_heardSix, .instanceMethod yX7_heardSix, .selects RX7 yX7_heardSix yX7_heardSix, .code yX7_heardSix cX7_heardSix 5 (some .long), .constantLong RX7 127 (256), .methodLink RX7 95 yX7_idOf, .static yX7_idOf, .code yX7_idOf cX7_idOf 3 (some .long)] ++ wsX70)
def wsX7_ask_r1 : List Cond := [Cond.constantLong RX7 158 (65535), Cond.constantLong RX7 156 (4294967295), Cond.constantLong RX7 257 (255), Cond.fieldLink RX7 116 "LampLineModel" "taped" "I", Cond.fieldLink RX7 64 "LampLineModel" "tape" "[B", Cond.fieldLink RX7 135 "LampLineModel" "answered" "I", Cond.methodLink RX7 101 yX7_in, Cond.static yX7_in, Cond.initialized RX7, Cond.code yX7_in cX7_in 6 (some .boolean), Cond.methodLink RX7 119 yX7_goes, Cond.instanceMethod yX7_goes, Cond.selects RX7 yX7_goes yX7_goes, Cond.code yX7_goes cX7_goes 2 (some .boolean), Cond.fieldLink RX7 91 "LampLineModel" "thrown" "I", Cond.methodLink RX7 95 yX7_idOf, Cond.static yX7_idOf, Cond.code yX7_idOf cX7_idOf 3 (some .long), Cond.methodLink RX7 259 yX7_beginPacket, Cond.instanceMethod yX7_beginPacket, Cond.selects RX7 yX7_beginPacket yX7_beginPacket, Cond.code yX7_beginPacket cX7_beginPacket 6 none, Cond.fieldLink RX7 245 "LampLineModel" "counted" "I", Cond.fieldLink RX7 138 "LampLineModel" "frameSize" "I"]
def wsX7_ask_r2 : List Cond := [Cond.methodLink RX7 242 yX7_write, Cond.instanceMethod yX7_write, Cond.selects RX7 yX7_write yX7_write, Cond.code yX7_write cX7_write 2 none, Cond.fieldLink RX7 67 "LampLineModel" "frame" "[B", Cond.methodLink RX7 248 yX7_writeSix, Cond.instanceMethod yX7_writeSix, Cond.selects RX7 yX7_writeSix yX7_writeSix, Cond.code yX7_writeSix cX7_writeSix 4 none, Cond.methodLink RX7 263 yX7_sendOff, Cond.instanceMethod yX7_sendOff, Cond.selects RX7 yX7_sendOff yX7_sendOff, Cond.code yX7_sendOff cX7_sendOff 3 none, Cond.methodLink RX7 123 yX7_at, Cond.instanceMethod yX7_at, Cond.selects RX7 yX7_at yX7_at, Cond.code yX7_at cX7_at 2 (some .int), Cond.methodLink RX7 239 yX7_look, Cond.instanceMethod yX7_look, Cond.selects RX7 yX7_look yX7_look, Cond.code yX7_look cX7_look 6 none, Cond.fieldLink RX7 129 "LampLineModel" "frames" "I", Cond.fieldLink RX7 113 "LampLineModel" "lamps" "I", Cond.fieldLink RX7 7 "LampLineModel" "maker" "[I"]
def wsX7_ask_r3 : List Cond := [Cond.fieldLink RX7 160 "LampLineModel" "replySize" "I", Cond.fieldLink RX7 170 "LampLineModel" "spoils" "I", Cond.fieldLink RX7 76 "LampLineModel" "spoilAt" "[I", Cond.fieldLink RX7 70 "LampLineModel" "answer" "[B", Cond.fieldLink RX7 79 "LampLineModel" "spoilMask" "[I", Cond.methodLink RX7 132 yX7_doDue, Cond.instanceMethod yX7_doDue, Cond.selects RX7 yX7_doDue yX7_doDue, Cond.code yX7_doDue cX7_doDue 5 none, Cond.fieldLink RX7 52 "LampLineModel" "laters" "[I", Cond.fieldLink RX7 55 "LampLineModel" "due" "[I", Cond.fieldLink RX7 36 "LampLineModel" "labelSize" "[I", Cond.fieldLink RX7 58 "LampLineModel" "laterSize" "[I", Cond.fieldLink RX7 39 "LampLineModel" "label" "[B", Cond.fieldLink RX7 61 "LampLineModel" "laterBytes" "[B", Cond.methodLink RX7 141 yX7_takeLevels, Cond.instanceMethod yX7_takeLevels, Cond.selects RX7 yX7_takeLevels yX7_takeLevels, Cond.code yX7_takeLevels cX7_takeLevels 3 none, Cond.fieldLink RX7 26 "LampLineModel" "address" "[I", Cond.fieldLink RX7 46 "LampLineModel" "levels" "[I", Cond.fieldLink RX7 49 "LampLineModel" "lit" "[I", Cond.methodLink RX7 173 yX7_footprint, Cond.instanceMethod yX7_footprint]
def wsX7_ask_r4 : List Cond := [Cond.selects RX7 yX7_footprint yX7_footprint, Cond.code yX7_footprint cX7_footprint 2 (some .int), Cond.fieldLink RX7 17 "LampLineModel" "width" "[I", Cond.fieldLink RX7 23 "LampLineModel" "mode" "[I", Cond.methodLink RX7 145 yX7_isPacket, Cond.instanceMethod yX7_isPacket, Cond.selects RX7 yX7_isPacket yX7_isPacket, Cond.code yX7_isPacket cX7_isPacket 3 (some .boolean), Cond.constant RX7 176 (65536), Cond.methodLink RX7 177 yX7_two, Cond.instanceMethod yX7_two, Cond.selects RX7 yX7_two yX7_two, Cond.code yX7_two cX7_two 2 (some .int), Cond.methodLink RX7 149 yX7_six, Cond.instanceMethod yX7_six, Cond.selects RX7 yX7_six yX7_six, Cond.code yX7_six cX7_six 5 (some .long), Cond.constantLong RX7 127 (256), Cond.methodLink RX7 153 yX7_ownId, Cond.instanceMethod yX7_ownId, Cond.selects RX7 yX7_ownId yX7_ownId, Cond.code yX7_ownId cX7_ownId 2 (some .long), Cond.fieldLink RX7 13 "LampLineModel" "rest" "[J", Cond.methodLink RX7 163 yX7_hear]
def wsX7_ask_r5 : List Cond := [Cond.instanceMethod yX7_hear, Cond.selects RX7 yX7_hear yX7_hear, Cond.code yX7_hear cX7_hear 3 none, Cond.fieldLink RX7 43 "LampLineModel" "asked" "[I", Cond.methodLink RX7 193 yX7_hearSearch, Cond.instanceMethod yX7_hearSearch, Cond.selects RX7 yX7_hearSearch yX7_hearSearch, Cond.code yX7_hearSearch cX7_hearSearch 7 none, Cond.fieldLink RX7 29 "LampLineModel" "silent" "[Z", Cond.methodLink RX7 202 yX7_show, Cond.instanceMethod yX7_show, Cond.selects RX7 yX7_show yX7_show, Cond.code yX7_show cX7_show 6 none, Cond.methodLink RX7 180 yX7_put, Cond.instanceMethod yX7_put, Cond.selects RX7 yX7_put yX7_put, Cond.code yX7_put cX7_put 2 none, Cond.fieldLink RX7 73 "LampLineModel" "reply" "[B", Cond.methodLink RX7 205 yX7_begin, Cond.instanceMethod yX7_begin, Cond.selects RX7 yX7_begin yX7_begin, Cond.code yX7_begin cX7_begin 6 none, Cond.methodLink RX7 183 yX7_putId, Cond.instanceMethod yX7_putId]
def wsX7_ask_r6 : List Cond := [Cond.selects RX7 yX7_putId yX7_putId, Cond.code yX7_putId cX7_putId 4 none, Cond.methodLink RX7 187 yX7_putTwo, Cond.instanceMethod yX7_putTwo, Cond.selects RX7 yX7_putTwo yX7_putTwo, Cond.code yX7_putTwo cX7_putTwo 2 none, Cond.methodLink RX7 209 yX7_finish, Cond.instanceMethod yX7_finish, Cond.selects RX7 yX7_finish yX7_finish, Cond.code yX7_finish cX7_finish 4 none, Cond.methodLink RX7 190 yX7_waiting, Cond.instanceMethod yX7_waiting, Cond.selects RX7 yX7_waiting yX7_waiting, Cond.code yX7_waiting cX7_waiting 4 (some .int), Cond.methodLink RX7 196 yX7_get, Cond.instanceMethod yX7_get, Cond.selects RX7 yX7_get yX7_get, Cond.code yX7_get cX7_get 3 none, Cond.methodLink RX7 212 yX7_refuse, Cond.instanceMethod yX7_refuse, Cond.selects RX7 yX7_refuse yX7_refuse, Cond.code yX7_refuse cX7_refuse 4 none, Cond.methodLink RX7 216 yX7_isMatter, Cond.static yX7_isMatter]
def wsX7_ask_r7 : List Cond := [Cond.code yX7_isMatter cX7_isMatter 1 (some .boolean), Cond.methodLink RX7 220 yX7_getWaiting, Cond.instanceMethod yX7_getWaiting, Cond.selects RX7 yX7_getWaiting yX7_getWaiting, Cond.code yX7_getWaiting cX7_getWaiting 6 none, Cond.methodLink RX7 223 yX7_tell, Cond.instanceMethod yX7_tell, Cond.selects RX7 yX7_tell yX7_tell, Cond.code yX7_tell cX7_tell 5 none, Cond.fieldLink RX7 20 "LampLineModel" "modes" "[I", Cond.fieldLink RX7 33 "LampLineModel" "shows" "[Z", Cond.methodLink RX7 199 yX7_set, Cond.instanceMethod yX7_set, Cond.selects RX7 yX7_set yX7_set, Cond.code yX7_set cX7_set 6 none, Cond.constant RX7 227 (65535), Cond.methodLink RX7 228 yX7_mayBe, Cond.instanceMethod yX7_mayBe, Cond.selects RX7 yX7_mayBe yX7_mayBe, Cond.code yX7_mayBe cX7_mayBe 6 (some .boolean), Cond.constantLong RX7 235 (32), Cond.constantLong RX7 237 (126), Cond.constantLong RX7 111 (512), Cond.methodLink RX7 232 yX7_setLabel]
def wsX7_ask_r8 : List Cond := [Cond.instanceMethod yX7_setLabel, Cond.selects RX7 yX7_setLabel yX7_setLabel, Cond.code yX7_setLabel cX7_setLabel 6 none, Cond.methodLink RX7 167 yX7_fall, Cond.instanceMethod yX7_fall, Cond.selects RX7 yX7_fall yX7_fall, Cond.code yX7_fall cX7_fall 2 none, Cond.methodLink RX7 266 yX7_isReply, Cond.instanceMethod yX7_isReply, Cond.selects RX7 yX7_isReply yX7_isReply, Cond.code yX7_isReply cX7_isReply 5 (some .boolean), Cond.methodLink RX7 251 yX7_heard, Cond.instanceMethod yX7_heard, Cond.selects RX7 yX7_heard yX7_heard, Cond.code yX7_heard cX7_heard 2 (some .int), Cond.methodLink RX7 254 yX7_heardSix, Cond.instanceMethod yX7_heardSix, Cond.selects RX7 yX7_heardSix yX7_heardSix, Cond.code yX7_heardSix cX7_heardSix 5 (some .long)]
def wsX7_ask : List Cond := .code yX7_ask cX7_ask 8 (some .int) :: ((wsX7_ask_r1 ++ (wsX7_ask_r2 ++ (wsX7_ask_r3 ++ (wsX7_ask_r4 ++ (wsX7_ask_r5 ++ (wsX7_ask_r6 ++ (wsX7_ask_r7 ++ wsX7_ask_r8))))))) ++ wsX70)
def wsX7_spoil : List Cond := .code yX7_spoil cX7_spoil 4 none :: ([.constantLong RX7 270 (300), .fieldLink RX7 170 "LampLineModel" "spoils" "I", .fieldLink RX7 76 "LampLineModel" "spoilAt" "[I", .fieldLink RX7 79 "LampLineModel" "spoilMask" "[I", .methodLink RX7 101 yX7_in, .static yX7_in, .initialized RX7, .code yX7_in cX7_in 6 (some .boolean), .methodLink RX7 119 yX7_goes, .instanceMethod yX7_goes, .selects RX7 yX7_goes yX7_goes, .code yX7_goes cX7_goes 2 (some .boolean), .fieldLink RX7 91 "LampLineModel" "thrown" "I"] ++ wsX70)
def wsX7_frames : List Cond := .code yX7_frames cX7_frames 1 (some .int) :: ([.fieldLink RX7 91 "LampLineModel" "thrown" "I", .fieldLink RX7 129 "LampLineModel" "frames" "I"] ++ wsX70)
def wsX7_isLamp : List Cond := .code yX7_isLamp cX7_isLamp 2 (some .boolean) :: ([.fieldLink RX7 113 "LampLineModel" "lamps" "I", .methodLink RX7 101 yX7_in, .static yX7_in, .initialized RX7, .code yX7_in cX7_in 6 (some .boolean)] ++ wsX70)
def wsX7_about_r1 : List Cond := [Cond.constantLong RX7 275 (10), Cond.fieldLink RX7 7 "LampLineModel" "maker" "[I", Cond.fieldLink RX7 23 "LampLineModel" "mode" "[I", Cond.fieldLink RX7 20 "LampLineModel" "modes" "[I", Cond.fieldLink RX7 26 "LampLineModel" "address" "[I", Cond.fieldLink RX7 29 "LampLineModel" "silent" "[Z", Cond.fieldLink RX7 33 "LampLineModel" "shows" "[Z", Cond.fieldLink RX7 49 "LampLineModel" "lit" "[I", Cond.fieldLink RX7 129 "LampLineModel" "frames" "I", Cond.fieldLink RX7 36 "LampLineModel" "labelSize" "[I", Cond.fieldLink RX7 43 "LampLineModel" "asked" "[I", Cond.methodLink RX7 272 yX7_isLamp, Cond.instanceMethod yX7_isLamp, Cond.selects RX7 yX7_isLamp yX7_isLamp, Cond.initialized RX7, Cond.code yX7_isLamp cX7_isLamp 2 (some .boolean), Cond.fieldLink RX7 113 "LampLineModel" "lamps" "I", Cond.methodLink RX7 101 yX7_in, Cond.static yX7_in, Cond.code yX7_in cX7_in 6 (some .boolean), Cond.methodLink RX7 119 yX7_goes, Cond.instanceMethod yX7_goes, Cond.selects RX7 yX7_goes yX7_goes, Cond.code yX7_goes cX7_goes 2 (some .boolean)]
def wsX7_about_r2 : List Cond := [Cond.fieldLink RX7 91 "LampLineModel" "thrown" "I", Cond.methodLink RX7 173 yX7_footprint, Cond.instanceMethod yX7_footprint, Cond.selects RX7 yX7_footprint yX7_footprint, Cond.code yX7_footprint cX7_footprint 2 (some .int), Cond.fieldLink RX7 17 "LampLineModel" "width" "[I", Cond.methodLink RX7 190 yX7_waiting, Cond.instanceMethod yX7_waiting, Cond.selects RX7 yX7_waiting yX7_waiting, Cond.code yX7_waiting cX7_waiting 4 (some .int), Cond.fieldLink RX7 52 "LampLineModel" "laters" "[I", Cond.fieldLink RX7 55 "LampLineModel" "due" "[I"]
def wsX7_about : List Cond := .code yX7_about cX7_about 3 (some .int) :: ((wsX7_about_r1 ++ wsX7_about_r2) ++ wsX70)
def wsX7_rest : List Cond := .code yX7_rest cX7_rest 2 (some .long) :: ([.fieldLink RX7 13 "LampLineModel" "rest" "[J", .methodLink RX7 272 yX7_isLamp, .instanceMethod yX7_isLamp, .selects RX7 yX7_isLamp yX7_isLamp, .initialized RX7, .code yX7_isLamp cX7_isLamp 2 (some .boolean), .fieldLink RX7 113 "LampLineModel" "lamps" "I", .methodLink RX7 101 yX7_in, .static yX7_in, .code yX7_in cX7_in 6 (some .boolean), .methodLink RX7 119 yX7_goes, .instanceMethod yX7_goes, .selects RX7 yX7_goes yX7_goes, .code yX7_goes cX7_goes 2 (some .boolean), .fieldLink RX7 91 "LampLineModel" "thrown" "I"] ++ wsX70)
def wsX7_level : List Cond := .code yX7_level cX7_level 3 (some .int) :: ([.fieldLink RX7 46 "LampLineModel" "levels" "[I", .methodLink RX7 272 yX7_isLamp, .instanceMethod yX7_isLamp, .selects RX7 yX7_isLamp yX7_isLamp, .initialized RX7, .code yX7_isLamp cX7_isLamp 2 (some .boolean), .fieldLink RX7 113 "LampLineModel" "lamps" "I", .methodLink RX7 101 yX7_in, .static yX7_in, .code yX7_in cX7_in 6 (some .boolean), .methodLink RX7 173 yX7_footprint, .instanceMethod yX7_footprint, .selects RX7 yX7_footprint yX7_footprint, .code yX7_footprint cX7_footprint 2 (some .int), .fieldLink RX7 17 "LampLineModel" "width" "[I", .fieldLink RX7 23 "LampLineModel" "mode" "[I", .methodLink RX7 119 yX7_goes, .instanceMethod yX7_goes, .selects RX7 yX7_goes yX7_goes, .code yX7_goes cX7_goes 2 (some .boolean), .fieldLink RX7 91 "LampLineModel" "thrown" "I"] ++ wsX70)
def wsX7_label : List Cond := .code yX7_label cX7_label 3 (some .int) :: ([.fieldLink RX7 36 "LampLineModel" "labelSize" "[I", .fieldLink RX7 39 "LampLineModel" "label" "[B", .methodLink RX7 272 yX7_isLamp, .instanceMethod yX7_isLamp, .selects RX7 yX7_isLamp yX7_isLamp, .initialized RX7, .code yX7_isLamp cX7_isLamp 2 (some .boolean), .fieldLink RX7 113 "LampLineModel" "lamps" "I", .methodLink RX7 101 yX7_in, .static yX7_in, .code yX7_in cX7_in 6 (some .boolean), .methodLink RX7 119 yX7_goes, .instanceMethod yX7_goes, .selects RX7 yX7_goes yX7_goes, .code yX7_goes cX7_goes 2 (some .boolean), .fieldLink RX7 91 "LampLineModel" "thrown" "I"] ++ wsX70)
def wsX7_silence : List Cond := .code yX7_silence cX7_silence 4 (some .int) :: ([.fieldLink RX7 29 "LampLineModel" "silent" "[Z", .methodLink RX7 272 yX7_isLamp, .instanceMethod yX7_isLamp, .selects RX7 yX7_isLamp yX7_isLamp, .initialized RX7, .code yX7_isLamp cX7_isLamp 2 (some .boolean), .fieldLink RX7 113 "LampLineModel" "lamps" "I", .methodLink RX7 101 yX7_in, .static yX7_in, .code yX7_in cX7_in 6 (some .boolean), .methodLink RX7 119 yX7_goes, .instanceMethod yX7_goes, .selects RX7 yX7_goes yX7_goes, .code yX7_goes cX7_goes 2 (some .boolean), .fieldLink RX7 91 "LampLineModel" "thrown" "I"] ++ wsX70)
def wsX7_search_r1 : List Cond := [Cond.fieldLink RX7 91 "LampLineModel" "thrown" "I", Cond.fieldLink RX7 277 "LampLineModel" "searching" "Z", Cond.fieldLink RX7 281 "LampLineModel" "steps" "I", Cond.fieldLink RX7 284 "LampLineModel" "found" "I", Cond.fieldLink RX7 287 "LampLineModel" "branches" "I", Cond.fieldLink RX7 82 "LampLineModel" "low" "[J", Cond.fieldLink RX7 85 "LampLineModel" "high" "[J", Cond.constantLong RX7 290 (281474976710654), Cond.constantLong RX7 292 (281474976710655), Cond.methodLink RX7 259 yX7_beginPacket, Cond.instanceMethod yX7_beginPacket, Cond.selects RX7 yX7_beginPacket yX7_beginPacket, Cond.initialized RX7, Cond.code yX7_beginPacket cX7_beginPacket 6 none, Cond.fieldLink RX7 245 "LampLineModel" "counted" "I", Cond.fieldLink RX7 138 "LampLineModel" "frameSize" "I", Cond.methodLink RX7 242 yX7_write, Cond.instanceMethod yX7_write, Cond.selects RX7 yX7_write yX7_write, Cond.code yX7_write cX7_write 2 none, Cond.fieldLink RX7 67 "LampLineModel" "frame" "[B", Cond.methodLink RX7 248 yX7_writeSix, Cond.instanceMethod yX7_writeSix, Cond.selects RX7 yX7_writeSix yX7_writeSix]
def wsX7_search_r2 : List Cond := [Cond.code yX7_writeSix cX7_writeSix 4 none, Cond.methodLink RX7 95 yX7_idOf, Cond.static yX7_idOf, Cond.code yX7_idOf cX7_idOf 3 (some .long), Cond.methodLink RX7 263 yX7_sendOff, Cond.instanceMethod yX7_sendOff, Cond.selects RX7 yX7_sendOff yX7_sendOff, Cond.code yX7_sendOff cX7_sendOff 3 none, Cond.methodLink RX7 123 yX7_at, Cond.instanceMethod yX7_at, Cond.selects RX7 yX7_at yX7_at, Cond.code yX7_at cX7_at 2 (some .int), Cond.methodLink RX7 239 yX7_look, Cond.instanceMethod yX7_look, Cond.selects RX7 yX7_look yX7_look, Cond.code yX7_look cX7_look 6 none, Cond.fieldLink RX7 129 "LampLineModel" "frames" "I", Cond.fieldLink RX7 135 "LampLineModel" "answered" "I", Cond.fieldLink RX7 113 "LampLineModel" "lamps" "I", Cond.constantLong RX7 156 (4294967295), Cond.constantLong RX7 158 (65535), Cond.fieldLink RX7 7 "LampLineModel" "maker" "[I", Cond.fieldLink RX7 160 "LampLineModel" "replySize" "I", Cond.fieldLink RX7 170 "LampLineModel" "spoils" "I"]
def wsX7_search_r3 : List Cond := [Cond.fieldLink RX7 76 "LampLineModel" "spoilAt" "[I", Cond.fieldLink RX7 70 "LampLineModel" "answer" "[B", Cond.fieldLink RX7 79 "LampLineModel" "spoilMask" "[I", Cond.methodLink RX7 132 yX7_doDue, Cond.instanceMethod yX7_doDue, Cond.selects RX7 yX7_doDue yX7_doDue, Cond.code yX7_doDue cX7_doDue 5 none, Cond.fieldLink RX7 52 "LampLineModel" "laters" "[I", Cond.fieldLink RX7 55 "LampLineModel" "due" "[I", Cond.fieldLink RX7 36 "LampLineModel" "labelSize" "[I", Cond.fieldLink RX7 58 "LampLineModel" "laterSize" "[I", Cond.fieldLink RX7 39 "LampLineModel" "label" "[B", Cond.fieldLink RX7 61 "LampLineModel" "laterBytes" "[B", Cond.methodLink RX7 141 yX7_takeLevels, Cond.instanceMethod yX7_takeLevels, Cond.selects RX7 yX7_takeLevels yX7_takeLevels, Cond.code yX7_takeLevels cX7_takeLevels 3 none, Cond.fieldLink RX7 26 "LampLineModel" "address" "[I", Cond.fieldLink RX7 46 "LampLineModel" "levels" "[I", Cond.fieldLink RX7 49 "LampLineModel" "lit" "[I", Cond.methodLink RX7 173 yX7_footprint, Cond.instanceMethod yX7_footprint, Cond.selects RX7 yX7_footprint yX7_footprint, Cond.code yX7_footprint cX7_footprint 2 (some .int)]
def wsX7_search_r4 : List Cond := [Cond.fieldLink RX7 17 "LampLineModel" "width" "[I", Cond.fieldLink RX7 23 "LampLineModel" "mode" "[I", Cond.methodLink RX7 145 yX7_isPacket, Cond.instanceMethod yX7_isPacket, Cond.selects RX7 yX7_isPacket yX7_isPacket, Cond.code yX7_isPacket cX7_isPacket 3 (some .boolean), Cond.constant RX7 176 (65536), Cond.methodLink RX7 177 yX7_two, Cond.instanceMethod yX7_two, Cond.selects RX7 yX7_two yX7_two, Cond.code yX7_two cX7_two 2 (some .int), Cond.methodLink RX7 149 yX7_six, Cond.instanceMethod yX7_six, Cond.selects RX7 yX7_six yX7_six, Cond.code yX7_six cX7_six 5 (some .long), Cond.constantLong RX7 127 (256), Cond.methodLink RX7 153 yX7_ownId, Cond.instanceMethod yX7_ownId, Cond.selects RX7 yX7_ownId yX7_ownId, Cond.code yX7_ownId cX7_ownId 2 (some .long), Cond.fieldLink RX7 13 "LampLineModel" "rest" "[J", Cond.methodLink RX7 163 yX7_hear, Cond.instanceMethod yX7_hear, Cond.selects RX7 yX7_hear yX7_hear]
def wsX7_search_r5 : List Cond := [Cond.code yX7_hear cX7_hear 3 none, Cond.fieldLink RX7 43 "LampLineModel" "asked" "[I", Cond.methodLink RX7 193 yX7_hearSearch, Cond.instanceMethod yX7_hearSearch, Cond.selects RX7 yX7_hearSearch yX7_hearSearch, Cond.code yX7_hearSearch cX7_hearSearch 7 none, Cond.fieldLink RX7 29 "LampLineModel" "silent" "[Z", Cond.methodLink RX7 202 yX7_show, Cond.instanceMethod yX7_show, Cond.selects RX7 yX7_show yX7_show, Cond.code yX7_show cX7_show 6 none, Cond.methodLink RX7 180 yX7_put, Cond.instanceMethod yX7_put, Cond.selects RX7 yX7_put yX7_put, Cond.code yX7_put cX7_put 2 none, Cond.fieldLink RX7 73 "LampLineModel" "reply" "[B", Cond.methodLink RX7 205 yX7_begin, Cond.instanceMethod yX7_begin, Cond.selects RX7 yX7_begin yX7_begin, Cond.code yX7_begin cX7_begin 6 none, Cond.methodLink RX7 183 yX7_putId, Cond.instanceMethod yX7_putId, Cond.selects RX7 yX7_putId yX7_putId, Cond.code yX7_putId cX7_putId 4 none]
def wsX7_search_r6 : List Cond := [Cond.methodLink RX7 187 yX7_putTwo, Cond.instanceMethod yX7_putTwo, Cond.selects RX7 yX7_putTwo yX7_putTwo, Cond.code yX7_putTwo cX7_putTwo 2 none, Cond.methodLink RX7 209 yX7_finish, Cond.instanceMethod yX7_finish, Cond.selects RX7 yX7_finish yX7_finish, Cond.code yX7_finish cX7_finish 4 none, Cond.methodLink RX7 190 yX7_waiting, Cond.instanceMethod yX7_waiting, Cond.selects RX7 yX7_waiting yX7_waiting, Cond.code yX7_waiting cX7_waiting 4 (some .int), Cond.methodLink RX7 196 yX7_get, Cond.instanceMethod yX7_get, Cond.selects RX7 yX7_get yX7_get, Cond.code yX7_get cX7_get 3 none, Cond.methodLink RX7 212 yX7_refuse, Cond.instanceMethod yX7_refuse, Cond.selects RX7 yX7_refuse yX7_refuse, Cond.code yX7_refuse cX7_refuse 4 none, Cond.methodLink RX7 216 yX7_isMatter, Cond.static yX7_isMatter, Cond.code yX7_isMatter cX7_isMatter 1 (some .boolean), Cond.methodLink RX7 220 yX7_getWaiting]
def wsX7_search_r7 : List Cond := [Cond.instanceMethod yX7_getWaiting, Cond.selects RX7 yX7_getWaiting yX7_getWaiting, Cond.code yX7_getWaiting cX7_getWaiting 6 none, Cond.methodLink RX7 223 yX7_tell, Cond.instanceMethod yX7_tell, Cond.selects RX7 yX7_tell yX7_tell, Cond.code yX7_tell cX7_tell 5 none, Cond.fieldLink RX7 20 "LampLineModel" "modes" "[I", Cond.fieldLink RX7 33 "LampLineModel" "shows" "[Z", Cond.methodLink RX7 199 yX7_set, Cond.instanceMethod yX7_set, Cond.selects RX7 yX7_set yX7_set, Cond.code yX7_set cX7_set 6 none, Cond.constant RX7 227 (65535), Cond.methodLink RX7 228 yX7_mayBe, Cond.instanceMethod yX7_mayBe, Cond.selects RX7 yX7_mayBe yX7_mayBe, Cond.code yX7_mayBe cX7_mayBe 6 (some .boolean), Cond.constantLong RX7 235 (32), Cond.constantLong RX7 237 (126), Cond.constantLong RX7 111 (512), Cond.methodLink RX7 101 yX7_in, Cond.static yX7_in, Cond.code yX7_in cX7_in 6 (some .boolean)]
def wsX7_search_r8 : List Cond := [Cond.methodLink RX7 232 yX7_setLabel, Cond.instanceMethod yX7_setLabel, Cond.selects RX7 yX7_setLabel yX7_setLabel, Cond.code yX7_setLabel cX7_setLabel 6 none, Cond.methodLink RX7 167 yX7_fall, Cond.instanceMethod yX7_fall, Cond.selects RX7 yX7_fall yX7_fall, Cond.code yX7_fall cX7_fall 2 none]
def wsX7_search : List Cond := .code yX7_search cX7_search 1 (some .int) :: ((wsX7_search_r1 ++ (wsX7_search_r2 ++ (wsX7_search_r3 ++ (wsX7_search_r4 ++ (wsX7_search_r5 ++ (wsX7_search_r6 ++ (wsX7_search_r7 ++ wsX7_search_r8))))))) ++ wsX70)
def wsX7_push : List Cond := .code yX7_push cX7_push 5 none :: ([.fieldLink RX7 82 "LampLineModel" "low" "[J", .fieldLink RX7 287 "LampLineModel" "branches" "I", .fieldLink RX7 85 "LampLineModel" "high" "[J"] ++ wsX70)
def wsX7_isFound : List Cond := .code yX7_isFound cX7_isFound 5 (some .boolean) :: ([.fieldLink RX7 284 "LampLineModel" "found" "I", .fieldLink RX7 88 "LampLineModel" "foundId" "[J"] ++ wsX70)
def wsX7_tried_r1 : List Cond := [Cond.fieldLink RX7 135 "LampLineModel" "answered" "I", Cond.fieldLink RX7 88 "LampLineModel" "foundId" "[J", Cond.fieldLink RX7 284 "LampLineModel" "found" "I", Cond.methodLink RX7 259 yX7_beginPacket, Cond.instanceMethod yX7_beginPacket, Cond.selects RX7 yX7_beginPacket yX7_beginPacket, Cond.initialized RX7, Cond.code yX7_beginPacket cX7_beginPacket 6 none, Cond.fieldLink RX7 245 "LampLineModel" "counted" "I", Cond.fieldLink RX7 138 "LampLineModel" "frameSize" "I", Cond.methodLink RX7 242 yX7_write, Cond.instanceMethod yX7_write, Cond.selects RX7 yX7_write yX7_write, Cond.code yX7_write cX7_write 2 none, Cond.fieldLink RX7 67 "LampLineModel" "frame" "[B", Cond.methodLink RX7 248 yX7_writeSix, Cond.instanceMethod yX7_writeSix, Cond.selects RX7 yX7_writeSix yX7_writeSix, Cond.code yX7_writeSix cX7_writeSix 4 none, Cond.methodLink RX7 95 yX7_idOf, Cond.static yX7_idOf, Cond.code yX7_idOf cX7_idOf 3 (some .long), Cond.methodLink RX7 263 yX7_sendOff, Cond.instanceMethod yX7_sendOff]
def wsX7_tried_r2 : List Cond := [Cond.selects RX7 yX7_sendOff yX7_sendOff, Cond.code yX7_sendOff cX7_sendOff 3 none, Cond.methodLink RX7 123 yX7_at, Cond.instanceMethod yX7_at, Cond.selects RX7 yX7_at yX7_at, Cond.code yX7_at cX7_at 2 (some .int), Cond.methodLink RX7 239 yX7_look, Cond.instanceMethod yX7_look, Cond.selects RX7 yX7_look yX7_look, Cond.code yX7_look cX7_look 6 none, Cond.fieldLink RX7 129 "LampLineModel" "frames" "I", Cond.fieldLink RX7 113 "LampLineModel" "lamps" "I", Cond.constantLong RX7 156 (4294967295), Cond.constantLong RX7 158 (65535), Cond.fieldLink RX7 7 "LampLineModel" "maker" "[I", Cond.fieldLink RX7 160 "LampLineModel" "replySize" "I", Cond.fieldLink RX7 170 "LampLineModel" "spoils" "I", Cond.fieldLink RX7 76 "LampLineModel" "spoilAt" "[I", Cond.fieldLink RX7 70 "LampLineModel" "answer" "[B", Cond.fieldLink RX7 79 "LampLineModel" "spoilMask" "[I", Cond.methodLink RX7 132 yX7_doDue, Cond.instanceMethod yX7_doDue, Cond.selects RX7 yX7_doDue yX7_doDue, Cond.code yX7_doDue cX7_doDue 5 none]
def wsX7_tried_r3 : List Cond := [Cond.fieldLink RX7 52 "LampLineModel" "laters" "[I", Cond.fieldLink RX7 55 "LampLineModel" "due" "[I", Cond.fieldLink RX7 36 "LampLineModel" "labelSize" "[I", Cond.fieldLink RX7 58 "LampLineModel" "laterSize" "[I", Cond.fieldLink RX7 39 "LampLineModel" "label" "[B", Cond.fieldLink RX7 61 "LampLineModel" "laterBytes" "[B", Cond.methodLink RX7 141 yX7_takeLevels, Cond.instanceMethod yX7_takeLevels, Cond.selects RX7 yX7_takeLevels yX7_takeLevels, Cond.code yX7_takeLevels cX7_takeLevels 3 none, Cond.fieldLink RX7 26 "LampLineModel" "address" "[I", Cond.fieldLink RX7 46 "LampLineModel" "levels" "[I", Cond.fieldLink RX7 49 "LampLineModel" "lit" "[I", Cond.methodLink RX7 173 yX7_footprint, Cond.instanceMethod yX7_footprint, Cond.selects RX7 yX7_footprint yX7_footprint, Cond.code yX7_footprint cX7_footprint 2 (some .int), Cond.fieldLink RX7 17 "LampLineModel" "width" "[I", Cond.fieldLink RX7 23 "LampLineModel" "mode" "[I", Cond.methodLink RX7 145 yX7_isPacket, Cond.instanceMethod yX7_isPacket, Cond.selects RX7 yX7_isPacket yX7_isPacket, Cond.code yX7_isPacket cX7_isPacket 3 (some .boolean), Cond.constant RX7 176 (65536)]
def wsX7_tried_r4 : List Cond := [Cond.methodLink RX7 177 yX7_two, Cond.instanceMethod yX7_two, Cond.selects RX7 yX7_two yX7_two, Cond.code yX7_two cX7_two 2 (some .int), Cond.methodLink RX7 149 yX7_six, Cond.instanceMethod yX7_six, Cond.selects RX7 yX7_six yX7_six, Cond.code yX7_six cX7_six 5 (some .long), Cond.constantLong RX7 127 (256), Cond.methodLink RX7 153 yX7_ownId, Cond.instanceMethod yX7_ownId, Cond.selects RX7 yX7_ownId yX7_ownId, Cond.code yX7_ownId cX7_ownId 2 (some .long), Cond.fieldLink RX7 13 "LampLineModel" "rest" "[J", Cond.methodLink RX7 163 yX7_hear, Cond.instanceMethod yX7_hear, Cond.selects RX7 yX7_hear yX7_hear, Cond.code yX7_hear cX7_hear 3 none, Cond.fieldLink RX7 43 "LampLineModel" "asked" "[I", Cond.methodLink RX7 193 yX7_hearSearch, Cond.instanceMethod yX7_hearSearch, Cond.selects RX7 yX7_hearSearch yX7_hearSearch, Cond.code yX7_hearSearch cX7_hearSearch 7 none, Cond.fieldLink RX7 29 "LampLineModel" "silent" "[Z"]
def wsX7_tried_r5 : List Cond := [Cond.methodLink RX7 202 yX7_show, Cond.instanceMethod yX7_show, Cond.selects RX7 yX7_show yX7_show, Cond.code yX7_show cX7_show 6 none, Cond.methodLink RX7 180 yX7_put, Cond.instanceMethod yX7_put, Cond.selects RX7 yX7_put yX7_put, Cond.code yX7_put cX7_put 2 none, Cond.fieldLink RX7 73 "LampLineModel" "reply" "[B", Cond.methodLink RX7 205 yX7_begin, Cond.instanceMethod yX7_begin, Cond.selects RX7 yX7_begin yX7_begin, Cond.code yX7_begin cX7_begin 6 none, Cond.methodLink RX7 183 yX7_putId, Cond.instanceMethod yX7_putId, Cond.selects RX7 yX7_putId yX7_putId, Cond.code yX7_putId cX7_putId 4 none, Cond.methodLink RX7 187 yX7_putTwo, Cond.instanceMethod yX7_putTwo, Cond.selects RX7 yX7_putTwo yX7_putTwo, Cond.code yX7_putTwo cX7_putTwo 2 none, Cond.methodLink RX7 209 yX7_finish, Cond.instanceMethod yX7_finish, Cond.selects RX7 yX7_finish yX7_finish]
def wsX7_tried_r6 : List Cond := [Cond.code yX7_finish cX7_finish 4 none, Cond.methodLink RX7 190 yX7_waiting, Cond.instanceMethod yX7_waiting, Cond.selects RX7 yX7_waiting yX7_waiting, Cond.code yX7_waiting cX7_waiting 4 (some .int), Cond.methodLink RX7 196 yX7_get, Cond.instanceMethod yX7_get, Cond.selects RX7 yX7_get yX7_get, Cond.code yX7_get cX7_get 3 none, Cond.methodLink RX7 212 yX7_refuse, Cond.instanceMethod yX7_refuse, Cond.selects RX7 yX7_refuse yX7_refuse, Cond.code yX7_refuse cX7_refuse 4 none, Cond.methodLink RX7 216 yX7_isMatter, Cond.static yX7_isMatter, Cond.code yX7_isMatter cX7_isMatter 1 (some .boolean), Cond.methodLink RX7 220 yX7_getWaiting, Cond.instanceMethod yX7_getWaiting, Cond.selects RX7 yX7_getWaiting yX7_getWaiting, Cond.code yX7_getWaiting cX7_getWaiting 6 none, Cond.methodLink RX7 223 yX7_tell, Cond.instanceMethod yX7_tell, Cond.selects RX7 yX7_tell yX7_tell, Cond.code yX7_tell cX7_tell 5 none]
def wsX7_tried_r7 : List Cond := [Cond.fieldLink RX7 20 "LampLineModel" "modes" "[I", Cond.fieldLink RX7 33 "LampLineModel" "shows" "[Z", Cond.methodLink RX7 199 yX7_set, Cond.instanceMethod yX7_set, Cond.selects RX7 yX7_set yX7_set, Cond.code yX7_set cX7_set 6 none, Cond.constant RX7 227 (65535), Cond.methodLink RX7 228 yX7_mayBe, Cond.instanceMethod yX7_mayBe, Cond.selects RX7 yX7_mayBe yX7_mayBe, Cond.code yX7_mayBe cX7_mayBe 6 (some .boolean), Cond.constantLong RX7 235 (32), Cond.constantLong RX7 237 (126), Cond.constantLong RX7 111 (512), Cond.methodLink RX7 101 yX7_in, Cond.static yX7_in, Cond.code yX7_in cX7_in 6 (some .boolean), Cond.methodLink RX7 232 yX7_setLabel, Cond.instanceMethod yX7_setLabel, Cond.selects RX7 yX7_setLabel yX7_setLabel, Cond.code yX7_setLabel cX7_setLabel 6 none, Cond.methodLink RX7 167 yX7_fall, Cond.instanceMethod yX7_fall, Cond.selects RX7 yX7_fall yX7_fall]
def wsX7_tried_r8 : List Cond := [Cond.code yX7_fall cX7_fall 2 none, Cond.methodLink RX7 266 yX7_isReply, Cond.instanceMethod yX7_isReply, Cond.selects RX7 yX7_isReply yX7_isReply, Cond.code yX7_isReply cX7_isReply 5 (some .boolean), Cond.methodLink RX7 251 yX7_heard, Cond.instanceMethod yX7_heard, Cond.selects RX7 yX7_heard yX7_heard, Cond.code yX7_heard cX7_heard 2 (some .int), Cond.methodLink RX7 254 yX7_heardSix, Cond.instanceMethod yX7_heardSix, Cond.selects RX7 yX7_heardSix yX7_heardSix, Cond.code yX7_heardSix cX7_heardSix 5 (some .long), Cond.methodLink RX7 294 yX7_isFound, Cond.instanceMethod yX7_isFound, Cond.selects RX7 yX7_isFound yX7_isFound, Cond.code yX7_isFound cX7_isFound 5 (some .boolean)]
def wsX7_tried : List Cond := .code yX7_tried cX7_tried 3 (some .int) :: ((wsX7_tried_r1 ++ (wsX7_tried_r2 ++ (wsX7_tried_r3 ++ (wsX7_tried_r4 ++ (wsX7_tried_r5 ++ (wsX7_tried_r6 ++ (wsX7_tried_r7 ++ wsX7_tried_r8))))))) ++ wsX70)
def wsX7_shown : List Cond := .code yX7_shown cX7_shown 8 (some .long) :: ([.fieldLink RX7 135 "LampLineModel" "answered" "I", .constantLong RX7 297 (-1), .constantLong RX7 127 (256), .constant RX7 176 (65536), .methodLink RX7 251 yX7_heard, .instanceMethod yX7_heard, .selects RX7 yX7_heard yX7_heard, .initialized RX7, .code yX7_heard cX7_heard 2 (some .int), .fieldLink RX7 70 "LampLineModel" "answer" "[B"] ++ wsX70)
def wsX7_isId : List Cond := .code yX7_isId cX7_isId 2 (some .boolean) :: ([.constantLong RX7 156 (4294967295)])
def wsX7_stepOnce_r1 : List Cond := [Cond.fieldLink RX7 287 "LampLineModel" "branches" "I", Cond.fieldLink RX7 82 "LampLineModel" "low" "[J", Cond.fieldLink RX7 85 "LampLineModel" "high" "[J", Cond.fieldLink RX7 281 "LampLineModel" "steps" "I", Cond.constantLong RX7 292 (281474976710655), Cond.fieldLink RX7 135 "LampLineModel" "answered" "I", Cond.constantLong RX7 314 (2), Cond.methodLink RX7 299 yX7_isId, Cond.static yX7_isId, Cond.initialized RX7, Cond.code yX7_isId cX7_isId 2 (some .boolean), Cond.constantLong RX7 156 (4294967295), Cond.methodLink RX7 302 yX7_tried, Cond.instanceMethod yX7_tried, Cond.selects RX7 yX7_tried yX7_tried, Cond.code yX7_tried cX7_tried 3 (some .int), Cond.fieldLink RX7 88 "LampLineModel" "foundId" "[J", Cond.fieldLink RX7 284 "LampLineModel" "found" "I", Cond.methodLink RX7 259 yX7_beginPacket, Cond.instanceMethod yX7_beginPacket, Cond.selects RX7 yX7_beginPacket yX7_beginPacket, Cond.code yX7_beginPacket cX7_beginPacket 6 none, Cond.fieldLink RX7 245 "LampLineModel" "counted" "I", Cond.fieldLink RX7 138 "LampLineModel" "frameSize" "I"]
def wsX7_stepOnce_r2 : List Cond := [Cond.methodLink RX7 242 yX7_write, Cond.instanceMethod yX7_write, Cond.selects RX7 yX7_write yX7_write, Cond.code yX7_write cX7_write 2 none, Cond.fieldLink RX7 67 "LampLineModel" "frame" "[B", Cond.methodLink RX7 248 yX7_writeSix, Cond.instanceMethod yX7_writeSix, Cond.selects RX7 yX7_writeSix yX7_writeSix, Cond.code yX7_writeSix cX7_writeSix 4 none, Cond.methodLink RX7 95 yX7_idOf, Cond.static yX7_idOf, Cond.code yX7_idOf cX7_idOf 3 (some .long), Cond.methodLink RX7 263 yX7_sendOff, Cond.instanceMethod yX7_sendOff, Cond.selects RX7 yX7_sendOff yX7_sendOff, Cond.code yX7_sendOff cX7_sendOff 3 none, Cond.methodLink RX7 123 yX7_at, Cond.instanceMethod yX7_at, Cond.selects RX7 yX7_at yX7_at, Cond.code yX7_at cX7_at 2 (some .int), Cond.methodLink RX7 239 yX7_look, Cond.instanceMethod yX7_look, Cond.selects RX7 yX7_look yX7_look, Cond.code yX7_look cX7_look 6 none]
def wsX7_stepOnce_r3 : List Cond := [Cond.fieldLink RX7 129 "LampLineModel" "frames" "I", Cond.fieldLink RX7 113 "LampLineModel" "lamps" "I", Cond.constantLong RX7 158 (65535), Cond.fieldLink RX7 7 "LampLineModel" "maker" "[I", Cond.fieldLink RX7 160 "LampLineModel" "replySize" "I", Cond.fieldLink RX7 170 "LampLineModel" "spoils" "I", Cond.fieldLink RX7 76 "LampLineModel" "spoilAt" "[I", Cond.fieldLink RX7 70 "LampLineModel" "answer" "[B", Cond.fieldLink RX7 79 "LampLineModel" "spoilMask" "[I", Cond.methodLink RX7 132 yX7_doDue, Cond.instanceMethod yX7_doDue, Cond.selects RX7 yX7_doDue yX7_doDue, Cond.code yX7_doDue cX7_doDue 5 none, Cond.fieldLink RX7 52 "LampLineModel" "laters" "[I", Cond.fieldLink RX7 55 "LampLineModel" "due" "[I", Cond.fieldLink RX7 36 "LampLineModel" "labelSize" "[I", Cond.fieldLink RX7 58 "LampLineModel" "laterSize" "[I", Cond.fieldLink RX7 39 "LampLineModel" "label" "[B", Cond.fieldLink RX7 61 "LampLineModel" "laterBytes" "[B", Cond.methodLink RX7 141 yX7_takeLevels, Cond.instanceMethod yX7_takeLevels, Cond.selects RX7 yX7_takeLevels yX7_takeLevels, Cond.code yX7_takeLevels cX7_takeLevels 3 none, Cond.fieldLink RX7 26 "LampLineModel" "address" "[I"]
def wsX7_stepOnce_r4 : List Cond := [Cond.fieldLink RX7 46 "LampLineModel" "levels" "[I", Cond.fieldLink RX7 49 "LampLineModel" "lit" "[I", Cond.methodLink RX7 173 yX7_footprint, Cond.instanceMethod yX7_footprint, Cond.selects RX7 yX7_footprint yX7_footprint, Cond.code yX7_footprint cX7_footprint 2 (some .int), Cond.fieldLink RX7 17 "LampLineModel" "width" "[I", Cond.fieldLink RX7 23 "LampLineModel" "mode" "[I", Cond.methodLink RX7 145 yX7_isPacket, Cond.instanceMethod yX7_isPacket, Cond.selects RX7 yX7_isPacket yX7_isPacket, Cond.code yX7_isPacket cX7_isPacket 3 (some .boolean), Cond.constant RX7 176 (65536), Cond.methodLink RX7 177 yX7_two, Cond.instanceMethod yX7_two, Cond.selects RX7 yX7_two yX7_two, Cond.code yX7_two cX7_two 2 (some .int), Cond.methodLink RX7 149 yX7_six, Cond.instanceMethod yX7_six, Cond.selects RX7 yX7_six yX7_six, Cond.code yX7_six cX7_six 5 (some .long), Cond.constantLong RX7 127 (256), Cond.methodLink RX7 153 yX7_ownId, Cond.instanceMethod yX7_ownId]
def wsX7_stepOnce_r5 : List Cond := [Cond.selects RX7 yX7_ownId yX7_ownId, Cond.code yX7_ownId cX7_ownId 2 (some .long), Cond.fieldLink RX7 13 "LampLineModel" "rest" "[J", Cond.methodLink RX7 163 yX7_hear, Cond.instanceMethod yX7_hear, Cond.selects RX7 yX7_hear yX7_hear, Cond.code yX7_hear cX7_hear 3 none, Cond.fieldLink RX7 43 "LampLineModel" "asked" "[I", Cond.methodLink RX7 193 yX7_hearSearch, Cond.instanceMethod yX7_hearSearch, Cond.selects RX7 yX7_hearSearch yX7_hearSearch, Cond.code yX7_hearSearch cX7_hearSearch 7 none, Cond.fieldLink RX7 29 "LampLineModel" "silent" "[Z", Cond.methodLink RX7 202 yX7_show, Cond.instanceMethod yX7_show, Cond.selects RX7 yX7_show yX7_show, Cond.code yX7_show cX7_show 6 none, Cond.methodLink RX7 180 yX7_put, Cond.instanceMethod yX7_put, Cond.selects RX7 yX7_put yX7_put, Cond.code yX7_put cX7_put 2 none, Cond.fieldLink RX7 73 "LampLineModel" "reply" "[B", Cond.methodLink RX7 205 yX7_begin, Cond.instanceMethod yX7_begin]
def wsX7_stepOnce_r6 : List Cond := [Cond.selects RX7 yX7_begin yX7_begin, Cond.code yX7_begin cX7_begin 6 none, Cond.methodLink RX7 183 yX7_putId, Cond.instanceMethod yX7_putId, Cond.selects RX7 yX7_putId yX7_putId, Cond.code yX7_putId cX7_putId 4 none, Cond.methodLink RX7 187 yX7_putTwo, Cond.instanceMethod yX7_putTwo, Cond.selects RX7 yX7_putTwo yX7_putTwo, Cond.code yX7_putTwo cX7_putTwo 2 none, Cond.methodLink RX7 209 yX7_finish, Cond.instanceMethod yX7_finish, Cond.selects RX7 yX7_finish yX7_finish, Cond.code yX7_finish cX7_finish 4 none, Cond.methodLink RX7 190 yX7_waiting, Cond.instanceMethod yX7_waiting, Cond.selects RX7 yX7_waiting yX7_waiting, Cond.code yX7_waiting cX7_waiting 4 (some .int), Cond.methodLink RX7 196 yX7_get, Cond.instanceMethod yX7_get, Cond.selects RX7 yX7_get yX7_get, Cond.code yX7_get cX7_get 3 none, Cond.methodLink RX7 212 yX7_refuse, Cond.instanceMethod yX7_refuse]
def wsX7_stepOnce_r7 : List Cond := [Cond.selects RX7 yX7_refuse yX7_refuse, Cond.code yX7_refuse cX7_refuse 4 none, Cond.methodLink RX7 216 yX7_isMatter, Cond.static yX7_isMatter, Cond.code yX7_isMatter cX7_isMatter 1 (some .boolean), Cond.methodLink RX7 220 yX7_getWaiting, Cond.instanceMethod yX7_getWaiting, Cond.selects RX7 yX7_getWaiting yX7_getWaiting, Cond.code yX7_getWaiting cX7_getWaiting 6 none, Cond.methodLink RX7 223 yX7_tell, Cond.instanceMethod yX7_tell, Cond.selects RX7 yX7_tell yX7_tell, Cond.code yX7_tell cX7_tell 5 none, Cond.fieldLink RX7 20 "LampLineModel" "modes" "[I", Cond.fieldLink RX7 33 "LampLineModel" "shows" "[Z", Cond.methodLink RX7 199 yX7_set, Cond.instanceMethod yX7_set, Cond.selects RX7 yX7_set yX7_set, Cond.code yX7_set cX7_set 6 none, Cond.constant RX7 227 (65535), Cond.methodLink RX7 228 yX7_mayBe, Cond.instanceMethod yX7_mayBe, Cond.selects RX7 yX7_mayBe yX7_mayBe, Cond.code yX7_mayBe cX7_mayBe 6 (some .boolean)]
def wsX7_stepOnce_r8 : List Cond := [Cond.constantLong RX7 235 (32), Cond.constantLong RX7 237 (126), Cond.constantLong RX7 111 (512), Cond.methodLink RX7 101 yX7_in, Cond.static yX7_in, Cond.code yX7_in cX7_in 6 (some .boolean), Cond.methodLink RX7 232 yX7_setLabel, Cond.instanceMethod yX7_setLabel, Cond.selects RX7 yX7_setLabel yX7_setLabel, Cond.code yX7_setLabel cX7_setLabel 6 none, Cond.methodLink RX7 167 yX7_fall, Cond.instanceMethod yX7_fall, Cond.selects RX7 yX7_fall yX7_fall, Cond.code yX7_fall cX7_fall 2 none, Cond.methodLink RX7 266 yX7_isReply, Cond.instanceMethod yX7_isReply, Cond.selects RX7 yX7_isReply yX7_isReply, Cond.code yX7_isReply cX7_isReply 5 (some .boolean), Cond.methodLink RX7 251 yX7_heard, Cond.instanceMethod yX7_heard, Cond.selects RX7 yX7_heard yX7_heard, Cond.code yX7_heard cX7_heard 2 (some .int), Cond.methodLink RX7 254 yX7_heardSix, Cond.instanceMethod yX7_heardSix]
def wsX7_stepOnce_r9 : List Cond := [Cond.selects RX7 yX7_heardSix yX7_heardSix, Cond.code yX7_heardSix cX7_heardSix 5 (some .long), Cond.methodLink RX7 294 yX7_isFound, Cond.instanceMethod yX7_isFound, Cond.selects RX7 yX7_isFound yX7_isFound, Cond.code yX7_isFound cX7_isFound 5 (some .boolean), Cond.methodLink RX7 306 yX7_push, Cond.instanceMethod yX7_push, Cond.selects RX7 yX7_push yX7_push, Cond.code yX7_push cX7_push 5 none, Cond.methodLink RX7 310 yX7_shown, Cond.instanceMethod yX7_shown, Cond.selects RX7 yX7_shown yX7_shown, Cond.code yX7_shown cX7_shown 8 (some .long), Cond.constantLong RX7 297 (-1)]
def wsX7_stepOnce : List Cond := .code yX7_stepOnce cX7_stepOnce 9 none :: ((wsX7_stepOnce_r1 ++ (wsX7_stepOnce_r2 ++ (wsX7_stepOnce_r3 ++ (wsX7_stepOnce_r4 ++ (wsX7_stepOnce_r5 ++ (wsX7_stepOnce_r6 ++ (wsX7_stepOnce_r7 ++ (wsX7_stepOnce_r8 ++ wsX7_stepOnce_r9)))))))) ++ wsX70)
def wsX7_step_r1 : List Cond := [Cond.fieldLink RX7 277 "LampLineModel" "searching" "Z", Cond.constantLong RX7 316 (1000), Cond.fieldLink RX7 91 "LampLineModel" "thrown" "I", Cond.fieldLink RX7 287 "LampLineModel" "branches" "I", Cond.methodLink RX7 101 yX7_in, Cond.static yX7_in, Cond.initialized RX7, Cond.code yX7_in cX7_in 6 (some .boolean), Cond.methodLink RX7 318 yX7_stepOnce, Cond.instanceMethod yX7_stepOnce, Cond.selects RX7 yX7_stepOnce yX7_stepOnce, Cond.code yX7_stepOnce cX7_stepOnce 9 none, Cond.fieldLink RX7 82 "LampLineModel" "low" "[J", Cond.fieldLink RX7 85 "LampLineModel" "high" "[J", Cond.fieldLink RX7 281 "LampLineModel" "steps" "I", Cond.constantLong RX7 292 (281474976710655), Cond.fieldLink RX7 135 "LampLineModel" "answered" "I", Cond.constantLong RX7 314 (2), Cond.methodLink RX7 299 yX7_isId, Cond.static yX7_isId, Cond.code yX7_isId cX7_isId 2 (some .boolean), Cond.constantLong RX7 156 (4294967295), Cond.methodLink RX7 302 yX7_tried, Cond.instanceMethod yX7_tried]
def wsX7_step_r2 : List Cond := [Cond.selects RX7 yX7_tried yX7_tried, Cond.code yX7_tried cX7_tried 3 (some .int), Cond.fieldLink RX7 88 "LampLineModel" "foundId" "[J", Cond.fieldLink RX7 284 "LampLineModel" "found" "I", Cond.methodLink RX7 259 yX7_beginPacket, Cond.instanceMethod yX7_beginPacket, Cond.selects RX7 yX7_beginPacket yX7_beginPacket, Cond.code yX7_beginPacket cX7_beginPacket 6 none, Cond.fieldLink RX7 245 "LampLineModel" "counted" "I", Cond.fieldLink RX7 138 "LampLineModel" "frameSize" "I", Cond.methodLink RX7 242 yX7_write, Cond.instanceMethod yX7_write, Cond.selects RX7 yX7_write yX7_write, Cond.code yX7_write cX7_write 2 none, Cond.fieldLink RX7 67 "LampLineModel" "frame" "[B", Cond.methodLink RX7 248 yX7_writeSix, Cond.instanceMethod yX7_writeSix, Cond.selects RX7 yX7_writeSix yX7_writeSix, Cond.code yX7_writeSix cX7_writeSix 4 none, Cond.methodLink RX7 95 yX7_idOf, Cond.static yX7_idOf, Cond.code yX7_idOf cX7_idOf 3 (some .long), Cond.methodLink RX7 263 yX7_sendOff, Cond.instanceMethod yX7_sendOff]
def wsX7_step_r3 : List Cond := [Cond.selects RX7 yX7_sendOff yX7_sendOff, Cond.code yX7_sendOff cX7_sendOff 3 none, Cond.methodLink RX7 123 yX7_at, Cond.instanceMethod yX7_at, Cond.selects RX7 yX7_at yX7_at, Cond.code yX7_at cX7_at 2 (some .int), Cond.methodLink RX7 239 yX7_look, Cond.instanceMethod yX7_look, Cond.selects RX7 yX7_look yX7_look, Cond.code yX7_look cX7_look 6 none, Cond.fieldLink RX7 129 "LampLineModel" "frames" "I", Cond.fieldLink RX7 113 "LampLineModel" "lamps" "I", Cond.constantLong RX7 158 (65535), Cond.fieldLink RX7 7 "LampLineModel" "maker" "[I", Cond.fieldLink RX7 160 "LampLineModel" "replySize" "I", Cond.fieldLink RX7 170 "LampLineModel" "spoils" "I", Cond.fieldLink RX7 76 "LampLineModel" "spoilAt" "[I", Cond.fieldLink RX7 70 "LampLineModel" "answer" "[B", Cond.fieldLink RX7 79 "LampLineModel" "spoilMask" "[I", Cond.methodLink RX7 132 yX7_doDue, Cond.instanceMethod yX7_doDue, Cond.selects RX7 yX7_doDue yX7_doDue, Cond.code yX7_doDue cX7_doDue 5 none, Cond.fieldLink RX7 52 "LampLineModel" "laters" "[I"]
def wsX7_step_r4 : List Cond := [Cond.fieldLink RX7 55 "LampLineModel" "due" "[I", Cond.fieldLink RX7 36 "LampLineModel" "labelSize" "[I", Cond.fieldLink RX7 58 "LampLineModel" "laterSize" "[I", Cond.fieldLink RX7 39 "LampLineModel" "label" "[B", Cond.fieldLink RX7 61 "LampLineModel" "laterBytes" "[B", Cond.methodLink RX7 141 yX7_takeLevels, Cond.instanceMethod yX7_takeLevels, Cond.selects RX7 yX7_takeLevels yX7_takeLevels, Cond.code yX7_takeLevels cX7_takeLevels 3 none, Cond.fieldLink RX7 26 "LampLineModel" "address" "[I", Cond.fieldLink RX7 46 "LampLineModel" "levels" "[I", Cond.fieldLink RX7 49 "LampLineModel" "lit" "[I", Cond.methodLink RX7 173 yX7_footprint, Cond.instanceMethod yX7_footprint, Cond.selects RX7 yX7_footprint yX7_footprint, Cond.code yX7_footprint cX7_footprint 2 (some .int), Cond.fieldLink RX7 17 "LampLineModel" "width" "[I", Cond.fieldLink RX7 23 "LampLineModel" "mode" "[I", Cond.methodLink RX7 145 yX7_isPacket, Cond.instanceMethod yX7_isPacket, Cond.selects RX7 yX7_isPacket yX7_isPacket, Cond.code yX7_isPacket cX7_isPacket 3 (some .boolean), Cond.constant RX7 176 (65536), Cond.methodLink RX7 177 yX7_two]
def wsX7_step_r5 : List Cond := [Cond.instanceMethod yX7_two, Cond.selects RX7 yX7_two yX7_two, Cond.code yX7_two cX7_two 2 (some .int), Cond.methodLink RX7 149 yX7_six, Cond.instanceMethod yX7_six, Cond.selects RX7 yX7_six yX7_six, Cond.code yX7_six cX7_six 5 (some .long), Cond.constantLong RX7 127 (256), Cond.methodLink RX7 153 yX7_ownId, Cond.instanceMethod yX7_ownId, Cond.selects RX7 yX7_ownId yX7_ownId, Cond.code yX7_ownId cX7_ownId 2 (some .long), Cond.fieldLink RX7 13 "LampLineModel" "rest" "[J", Cond.methodLink RX7 163 yX7_hear, Cond.instanceMethod yX7_hear, Cond.selects RX7 yX7_hear yX7_hear, Cond.code yX7_hear cX7_hear 3 none, Cond.fieldLink RX7 43 "LampLineModel" "asked" "[I", Cond.methodLink RX7 193 yX7_hearSearch, Cond.instanceMethod yX7_hearSearch, Cond.selects RX7 yX7_hearSearch yX7_hearSearch, Cond.code yX7_hearSearch cX7_hearSearch 7 none, Cond.fieldLink RX7 29 "LampLineModel" "silent" "[Z", Cond.methodLink RX7 202 yX7_show]
def wsX7_step_r6 : List Cond := [Cond.instanceMethod yX7_show, Cond.selects RX7 yX7_show yX7_show, Cond.code yX7_show cX7_show 6 none, Cond.methodLink RX7 180 yX7_put, Cond.instanceMethod yX7_put, Cond.selects RX7 yX7_put yX7_put, Cond.code yX7_put cX7_put 2 none, Cond.fieldLink RX7 73 "LampLineModel" "reply" "[B", Cond.methodLink RX7 205 yX7_begin, Cond.instanceMethod yX7_begin, Cond.selects RX7 yX7_begin yX7_begin, Cond.code yX7_begin cX7_begin 6 none, Cond.methodLink RX7 183 yX7_putId, Cond.instanceMethod yX7_putId, Cond.selects RX7 yX7_putId yX7_putId, Cond.code yX7_putId cX7_putId 4 none, Cond.methodLink RX7 187 yX7_putTwo, Cond.instanceMethod yX7_putTwo, Cond.selects RX7 yX7_putTwo yX7_putTwo, Cond.code yX7_putTwo cX7_putTwo 2 none, Cond.methodLink RX7 209 yX7_finish, Cond.instanceMethod yX7_finish, Cond.selects RX7 yX7_finish yX7_finish, Cond.code yX7_finish cX7_finish 4 none]
def wsX7_step_r7 : List Cond := [Cond.methodLink RX7 190 yX7_waiting, Cond.instanceMethod yX7_waiting, Cond.selects RX7 yX7_waiting yX7_waiting, Cond.code yX7_waiting cX7_waiting 4 (some .int), Cond.methodLink RX7 196 yX7_get, Cond.instanceMethod yX7_get, Cond.selects RX7 yX7_get yX7_get, Cond.code yX7_get cX7_get 3 none, Cond.methodLink RX7 212 yX7_refuse, Cond.instanceMethod yX7_refuse, Cond.selects RX7 yX7_refuse yX7_refuse, Cond.code yX7_refuse cX7_refuse 4 none, Cond.methodLink RX7 216 yX7_isMatter, Cond.static yX7_isMatter, Cond.code yX7_isMatter cX7_isMatter 1 (some .boolean), Cond.methodLink RX7 220 yX7_getWaiting, Cond.instanceMethod yX7_getWaiting, Cond.selects RX7 yX7_getWaiting yX7_getWaiting, Cond.code yX7_getWaiting cX7_getWaiting 6 none, Cond.methodLink RX7 223 yX7_tell, Cond.instanceMethod yX7_tell, Cond.selects RX7 yX7_tell yX7_tell, Cond.code yX7_tell cX7_tell 5 none, Cond.fieldLink RX7 20 "LampLineModel" "modes" "[I"]
def wsX7_step_r8 : List Cond := [Cond.fieldLink RX7 33 "LampLineModel" "shows" "[Z", Cond.methodLink RX7 199 yX7_set, Cond.instanceMethod yX7_set, Cond.selects RX7 yX7_set yX7_set, Cond.code yX7_set cX7_set 6 none, Cond.constant RX7 227 (65535), Cond.methodLink RX7 228 yX7_mayBe, Cond.instanceMethod yX7_mayBe, Cond.selects RX7 yX7_mayBe yX7_mayBe, Cond.code yX7_mayBe cX7_mayBe 6 (some .boolean), Cond.constantLong RX7 235 (32), Cond.constantLong RX7 237 (126), Cond.constantLong RX7 111 (512), Cond.methodLink RX7 232 yX7_setLabel, Cond.instanceMethod yX7_setLabel, Cond.selects RX7 yX7_setLabel yX7_setLabel, Cond.code yX7_setLabel cX7_setLabel 6 none, Cond.methodLink RX7 167 yX7_fall, Cond.instanceMethod yX7_fall, Cond.selects RX7 yX7_fall yX7_fall, Cond.code yX7_fall cX7_fall 2 none, Cond.methodLink RX7 266 yX7_isReply, Cond.instanceMethod yX7_isReply, Cond.selects RX7 yX7_isReply yX7_isReply]
def wsX7_step_r9 : List Cond := [Cond.code yX7_isReply cX7_isReply 5 (some .boolean), Cond.methodLink RX7 251 yX7_heard, Cond.instanceMethod yX7_heard, Cond.selects RX7 yX7_heard yX7_heard, Cond.code yX7_heard cX7_heard 2 (some .int), Cond.methodLink RX7 254 yX7_heardSix, Cond.instanceMethod yX7_heardSix, Cond.selects RX7 yX7_heardSix yX7_heardSix, Cond.code yX7_heardSix cX7_heardSix 5 (some .long), Cond.methodLink RX7 294 yX7_isFound, Cond.instanceMethod yX7_isFound, Cond.selects RX7 yX7_isFound yX7_isFound, Cond.code yX7_isFound cX7_isFound 5 (some .boolean), Cond.methodLink RX7 306 yX7_push, Cond.instanceMethod yX7_push, Cond.selects RX7 yX7_push yX7_push, Cond.code yX7_push cX7_push 5 none, Cond.methodLink RX7 310 yX7_shown, Cond.instanceMethod yX7_shown, Cond.selects RX7 yX7_shown yX7_shown, Cond.code yX7_shown cX7_shown 8 (some .long), Cond.constantLong RX7 297 (-1)]
def wsX7_step : List Cond := .code yX7_step cX7_step 3 (some .int) :: ((wsX7_step_r1 ++ (wsX7_step_r2 ++ (wsX7_step_r3 ++ (wsX7_step_r4 ++ (wsX7_step_r5 ++ (wsX7_step_r6 ++ (wsX7_step_r7 ++ (wsX7_step_r8 ++ wsX7_step_r9)))))))) ++ wsX70)
def wsX7_found : List Cond := .code yX7_found cX7_found 1 (some .int) :: ([.fieldLink RX7 91 "LampLineModel" "thrown" "I", .fieldLink RX7 284 "LampLineModel" "found" "I"] ++ wsX70)
def wsX7_id : List Cond := .code yX7_id cX7_id 2 (some .long) :: ([.fieldLink RX7 284 "LampLineModel" "found" "I", .fieldLink RX7 88 "LampLineModel" "foundId" "[J", .methodLink RX7 101 yX7_in, .static yX7_in, .initialized RX7, .code yX7_in cX7_in 6 (some .boolean), .methodLink RX7 119 yX7_goes, .instanceMethod yX7_goes, .selects RX7 yX7_goes yX7_goes, .code yX7_goes cX7_goes 2 (some .boolean), .fieldLink RX7 91 "LampLineModel" "thrown" "I"] ++ wsX70)
def wsX7_branch : List Cond := .code yX7_branch cX7_branch 2 (some .long) :: ([.fieldLink RX7 287 "LampLineModel" "branches" "I", .fieldLink RX7 281 "LampLineModel" "steps" "I", .fieldLink RX7 82 "LampLineModel" "low" "[J", .fieldLink RX7 85 "LampLineModel" "high" "[J", .methodLink RX7 101 yX7_in, .static yX7_in, .initialized RX7, .code yX7_in cX7_in 6 (some .boolean), .methodLink RX7 119 yX7_goes, .instanceMethod yX7_goes, .selects RX7 yX7_goes yX7_goes, .code yX7_goes cX7_goes 2 (some .boolean), .fieldLink RX7 91 "LampLineModel" "thrown" "I"] ++ wsX70)
def wsJ9_min_7cf53 : List Cond := .code yJ9_min_7cf53 cJ9_min_7cf53 2 (some .int) :: ([])
def wsL_lamp_r1 : List Cond := [Cond.classLink RL 13 "java/lang/IllegalArgumentException", Cond.classLink RL 15 "java/lang/IllegalStateException", Cond.methodLink RL 7 yX6_lamp, Cond.instanceMethod yX6_lamp, Cond.selects RX6 yX6_lamp yX6_lamp, Cond.initialized RX6, Cond.code yX6_lamp cX6_lamp 9 (some .int), Cond.classLink RX6 62 "java/lang/IllegalArgumentException", Cond.initialized "java/lang/IllegalArgumentException", Cond.classLink RX6 91 "java/lang/IllegalStateException", Cond.initialized "java/lang/IllegalStateException", Cond.constantLong RX6 60 (4294967295), Cond.fieldLink RX6 87 "LampLine" "lampCount" "I", Cond.fieldLink RX6 56 "LampLine" "lamps" "[LLampLine$Lamp;", Cond.classLink RX6 54 RX1, Cond.instantiable RX1 15, Cond.initialized RX1, Cond.methodLink RX6 71 yX6_fits, Cond.static yX6_fits, Cond.code yX6_fits cX6_fits 2 (some .boolean), Cond.methodLink RX6 77 yX6_joinedId, Cond.static yX6_joinedId, Cond.code yX6_joinedId cX6_joinedId 3 (some .long), Cond.methodLink RX6 81 yX6_isThere]
def wsL_lamp_r2 : List Cond := [Cond.instanceMethod yX6_isThere, Cond.selects RX6 yX6_isThere yX6_isThere, Cond.code yX6_isThere cX6_isThere 4 (some .boolean), Cond.methodLink RX6 96 yX1_init, Cond.instanceMethod yX1_init, Cond.code yX1_init cX1_init 7 none, Cond.methodLink RX1 3 objectInit, Cond.instanceMethod objectInit, Cond.code objectInit ⟨#[0xb1]⟩ 1 none, Cond.arrayClass .int, Cond.fieldLink RX1 9 "LampLine$Lamp" "levels" "[I", Cond.classLink RX1 15 RX3, Cond.instantiable RX3 2, Cond.initialized RX3, Cond.fieldLink RX1 20 "LampLine$Lamp" "text" "LLampLine$Row;", Cond.fieldLink RX1 24 "LampLine$Lamp" "laterTexts" "[LLampLine$Row;", Cond.arrayClass .boolean, Cond.fieldLink RX1 28 "LampLine$Lamp" "isLater" "[Z", Cond.fieldLink RX1 32 "LampLine$Lamp" "mode" "I", Cond.fieldLink RX1 36 "LampLine$Lamp" "id" "J", Cond.fieldLink RX1 40 "LampLine$Lamp" "width" "I", Cond.fieldLink RX1 43 "LampLine$Lamp" "modes" "I", Cond.fieldLink RX1 46 "LampLine$Lamp" "address" "I", Cond.methodLink RX1 17 yX3_init]
def wsL_lamp_r3 : List Cond := [Cond.instanceMethod yX3_init, Cond.code yX3_init cX3_init 2 none, Cond.methodLink RX3 1 objectInit, Cond.fieldLink RX3 7 "LampLine$Row" "cells" "[I"]
def wsL_lamp : List Cond := .codeWith yL_lamp cL_lamp 9 (some .int) [(0, 17, 20, 13), (0, 17, 24, 15)] :: ((wsL_lamp_r1 ++ (wsL_lamp_r2 ++ wsL_lamp_r3)) ++ wsX60 ++ wsX10 ++ wsX30 ++ (vx_atS RX6 66 "java/lang/IllegalArgumentException" ["java/lang/RuntimeException", "java/lang/Exception"]).filter goodWord ++ (vx_atS RX6 95 "java/lang/IllegalStateException" ["java/lang/RuntimeException", "java/lang/Exception"]).filter goodWord)
def wsL_feed : List Cond := .codeWith yL_feed cL_feed 8 (some .int) [(0, 16, 19, 15)] :: ([.classLink RL 15 "java/lang/IllegalStateException", .methodLink RL 17 yX6_feed, .instanceMethod yX6_feed, .selects RX6 yX6_feed yX6_feed, .initialized RX6, .code yX6_feed cX6_feed 6 (some .int), .classLink RX6 91 "java/lang/IllegalStateException", .initialized "java/lang/IllegalStateException", .fieldLink RX6 14 "LampLine" "tape" "LLampLine$Row;", .methodLink RX6 99 yX3_size, .instanceMethod yX3_size, .selects RX3 yX3_size yX3_size, .initialized RX3, .code yX3_size cX3_size 1 (some .int), .fieldLink RX3 13 "LampLine$Row" "size" "I", .methodLink RX6 105 yX3_putNumber, .instanceMethod yX3_putNumber, .selects RX3 yX3_putNumber yX3_putNumber, .code yX3_putNumber cX3_putNumber 5 none, .fieldLink RX3 7 "LampLine$Row" "cells" "[I"] ++ wsX60 ++ wsX30 ++ (vx_atS RX6 95 "java/lang/IllegalStateException" ["java/lang/RuntimeException", "java/lang/Exception"]).filter goodWord)
def wsL_end : List Cond := .codeWith yL_end cL_end 3 (some .int) [(0, 5, 8, 13)] :: ([.classLink RL 13 "java/lang/IllegalArgumentException", .methodLink RL 21 yX6_end, .instanceMethod yX6_end, .selects RX6 yX6_end yX6_end, .initialized RX6, .code yX6_end cX6_end 2 none, .classLink RX6 62 "java/lang/IllegalArgumentException", .initialized "java/lang/IllegalArgumentException", .fieldLink RX6 14 "LampLine" "tape" "LLampLine$Row;", .methodLink RX6 99 yX3_size, .instanceMethod yX3_size, .selects RX3 yX3_size yX3_size, .initialized RX3, .code yX3_size cX3_size 1 (some .int), .fieldLink RX3 13 "LampLine$Row" "size" "I", .methodLink RX6 111 yX3_cut, .instanceMethod yX3_cut, .selects RX3 yX3_cut yX3_cut, .code yX3_cut cX3_cut 2 none] ++ wsX60 ++ wsX30 ++ (vx_atS RX6 66 "java/lang/IllegalArgumentException" ["java/lang/RuntimeException", "java/lang/Exception"]).filter goodWord)
def wsL_answer : List Cond := .codeWith yL_answer cL_answer 4 (some .int) [(0, 9, 12, 29)] :: ([.classLink RL 29 "java/lang/IndexOutOfBoundsException", .methodLink RL 25 yX6_answer, .instanceMethod yX6_answer, .selects RX6 yX6_answer yX6_answer, .initialized RX6, .code yX6_answer cX6_answer 2 (some .int), .classLink RX6 121 "java/lang/IndexOutOfBoundsException", .initialized "java/lang/IndexOutOfBoundsException", .fieldLink RX6 26 "LampLine" "heardAnswer" "LLampLine$Row;", .methodLink RX6 99 yX3_size, .instanceMethod yX3_size, .selects RX3 yX3_size yX3_size, .initialized RX3, .code yX3_size cX3_size 1 (some .int), .fieldLink RX3 13 "LampLine$Row" "size" "I", .methodLink RX6 126 yX3_at, .instanceMethod yX3_at, .selects RX3 yX3_at yX3_at, .code yX3_at cX3_at 2 (some .int), .fieldLink RX3 7 "LampLine$Row" "cells" "[I"] ++ wsX60 ++ wsX30 ++ (vx_atS RX6 125 "java/lang/IndexOutOfBoundsException" ["java/lang/RuntimeException", "java/lang/Exception"]).filter goodWord)
def wsL_ask_r1 : List Cond := [Cond.classLink RL 13 "java/lang/IllegalArgumentException", Cond.methodLink RL 31 yX6_ask, Cond.instanceMethod yX6_ask, Cond.selects RX6 yX6_ask yX6_ask, Cond.initialized RX6, Cond.code yX6_ask cX6_ask 9 (some .int), Cond.classLink RX6 62 "java/lang/IllegalArgumentException", Cond.initialized "java/lang/IllegalArgumentException", Cond.constant RX6 130 (65535), Cond.constantLong RX6 60 (4294967295), Cond.fieldLink RX6 30 "LampLine" "question" "LLampLine$Packet;", Cond.fieldLink RX6 14 "LampLine" "tape" "LLampLine$Row;", Cond.fieldLink RX6 18 "LampLine" "frame" "LLampLine$Row;", Cond.fieldLink RX6 26 "LampLine" "heardAnswer" "LLampLine$Row;", Cond.fieldLink RX6 34 "LampLine" "heard" "LLampLine$Packet;", Cond.methodLink RX6 77 yX6_joinedId, Cond.static yX6_joinedId, Cond.code yX6_joinedId cX6_joinedId 3 (some .long), Cond.methodLink RX6 135 yX6_beginQuestion, Cond.instanceMethod yX6_beginQuestion, Cond.selects RX6 yX6_beginQuestion yX6_beginQuestion, Cond.code yX6_beginQuestion cX6_beginQuestion 5 none, Cond.fieldLink RX6 273 "LampLine" "questionCount" "I", Cond.constantLong RX6 276 (140728898420737)]
def wsL_ask_r2 : List Cond := [Cond.methodLink RX6 111 yX3_cut, Cond.instanceMethod yX3_cut, Cond.selects RX3 yX3_cut yX3_cut, Cond.initialized RX3, Cond.code yX3_cut cX3_cut 2 none, Cond.fieldLink RX3 13 "LampLine$Row" "size" "I", Cond.methodLink RX6 114 yX3_copyFrom, Cond.instanceMethod yX3_copyFrom, Cond.selects RX3 yX3_copyFrom yX3_copyFrom, Cond.code yX3_copyFrom cX3_copyFrom 3 none, Cond.fieldLink RX3 7 "LampLine$Row" "cells" "[I", Cond.methodLink RX6 145 yX2_writeTo, Cond.instanceMethod yX2_writeTo, Cond.selects RX2 yX2_writeTo yX2_writeTo, Cond.initialized RX2, Cond.code yX2_writeTo cX2_writeTo 4 none, Cond.fieldLink RX2 16 "LampLine$Packet" "data" "LLampLine$Row;", Cond.fieldLink RX2 20 "LampLine$Packet" "to" "J", Cond.fieldLink RX2 46 "LampLine$Packet" "from" "J", Cond.fieldLink RX2 49 "LampLine$Packet" "count" "I", Cond.fieldLink RX2 53 "LampLine$Packet" "kind" "I", Cond.fieldLink RX2 56 "LampLine$Packet" "messages" "I", Cond.fieldLink RX2 59 "LampLine$Packet" "part" "I", Cond.fieldLink RX2 62 "LampLine$Packet" "group" "I"]
def wsL_ask_r3 : List Cond := [Cond.fieldLink RX2 65 "LampLine$Packet" "matter" "I", Cond.methodLink RX2 34 yX3_size, Cond.instanceMethod yX3_size, Cond.selects RX3 yX3_size yX3_size, Cond.code yX3_size cX3_size 1 (some .int), Cond.methodLink RX2 68 yX3_cut, Cond.methodLink RX2 71 yX3_put, Cond.instanceMethod yX3_put, Cond.selects RX3 yX3_put yX3_put, Cond.code yX3_put cX3_put 2 none, Cond.methodLink RX2 74 yX3_putNumber, Cond.instanceMethod yX3_putNumber, Cond.selects RX3 yX3_putNumber yX3_putNumber, Cond.code yX3_putNumber cX3_putNumber 5 none, Cond.methodLink RX2 30 yX3_at, Cond.instanceMethod yX3_at, Cond.selects RX3 yX3_at yX3_at, Cond.code yX3_at cX3_at 2 (some .int), Cond.methodLink RX2 38 yX3_sum, Cond.instanceMethod yX3_sum, Cond.selects RX3 yX3_sum yX3_sum, Cond.code yX3_sum cX3_sum 5 (some .int), Cond.constant RX3 21 (65535), Cond.methodLink RX6 118 yX6_runFrame]
def wsL_ask_r4 : List Cond := [Cond.instanceMethod yX6_runFrame, Cond.selects RX6 yX6_runFrame yX6_runFrame, Cond.code yX6_runFrame cX6_runFrame 5 none, Cond.fieldLink RX6 160 "LampLine" "frameCount" "I", Cond.fieldLink RX6 87 "LampLine" "lampCount" "I", Cond.fieldLink RX6 56 "LampLine" "lamps" "[LLampLine$Lamp;", Cond.fieldLink RX6 37 "LampLine" "reply" "LLampLine$Packet;", Cond.fieldLink RX6 23 "LampLine" "voice" "LLampLine$Row;", Cond.fieldLink RX6 43 "LampLine" "spoils" "LLampLine$Spoils;", Cond.methodLink RX6 99 yX3_size, Cond.methodLink RX6 126 yX3_at, Cond.methodLink RX6 246 yX2_readFrom, Cond.instanceMethod yX2_readFrom, Cond.selects RX2 yX2_readFrom yX2_readFrom, Cond.code yX2_readFrom cX2_readFrom 4 (some .boolean), Cond.methodLink RX2 42 yX3_number, Cond.instanceMethod yX3_number, Cond.selects RX3 yX3_number yX3_number, Cond.code yX3_number cX3_number 6 (some .long), Cond.methodLink RX3 17 yX3_at, Cond.methodLink RX6 250 yX1_ripen, Cond.instanceMethod yX1_ripen, Cond.selects RX1 yX1_ripen yX1_ripen, Cond.initialized RX1]
def wsL_ask_r5 : List Cond := [Cond.code yX1_ripen cX1_ripen 3 none, Cond.fieldLink RX1 28 "LampLine$Lamp" "isLater" "[Z", Cond.fieldLink RX1 20 "LampLine$Lamp" "text" "LLampLine$Row;", Cond.fieldLink RX1 24 "LampLine$Lamp" "laterTexts" "[LLampLine$Row;", Cond.fieldLink RX1 88 "LampLine$Lamp" "onTheWay" "I", Cond.fieldLink RX1 75 "LampLine$Lamp" "waiting" "I", Cond.methodLink RX1 84 yX3_copyFrom, Cond.methodLink RX6 253 yX1_shine, Cond.instanceMethod yX1_shine, Cond.selects RX1 yX1_shine yX1_shine, Cond.code yX1_shine cX1_shine 5 none, Cond.fieldLink RX1 46 "LampLine$Lamp" "address" "I", Cond.fieldLink RX1 49 "LampLine$Lamp" "litAt" "I", Cond.methodLink RX1 91 Lib.Math.min.name, Cond.static Lib.Math.min.name, Cond.initialized "java/lang/Math", Cond.code Lib.Math.min.name Lib.Math.min.code 2 (some .int), Cond.fieldLink RX1 9 "LampLine$Lamp" "levels" "[I", Cond.methodLink RX1 78 yX3_size, Cond.methodLink RX1 56 yX1_footprint, Cond.instanceMethod yX1_footprint, Cond.selects RX1 yX1_footprint yX1_footprint, Cond.code yX1_footprint cX1_footprint 1 (some .int), Cond.fieldLink RX1 40 "LampLine$Lamp" "width" "I"]
def wsL_ask_r6 : List Cond := [Cond.fieldLink RX1 32 "LampLine$Lamp" "mode" "I", Cond.methodLink RX1 97 yX3_at, Cond.methodLink RX6 260 yX1_isMeantBy, Cond.instanceMethod yX1_isMeantBy, Cond.selects RX1 yX1_isMeantBy yX1_isMeantBy, Cond.code yX1_isMeantBy cX1_isMeantBy 3 (some .boolean), Cond.constantLong RX1 105 (4294967295), Cond.fieldLink RX1 36 "LampLine$Lamp" "id" "J", Cond.constant RX1 107 (65535), Cond.static yX6_restOf, Cond.code yX6_restOf cX6_restOf 2 (some .long), Cond.static yX6_makerOf, Cond.code yX6_makerOf cX6_makerOf 2 (some .int), Cond.methodLink RX6 263 yX1_speaksTo, Cond.instanceMethod yX1_speaksTo, Cond.selects RX1 yX1_speaksTo yX1_speaksTo, Cond.code yX1_speaksTo cX1_speaksTo 5 (some .boolean), Cond.methodLink RX1 113 yX1_speaksToSearch, Cond.instanceMethod yX1_speaksToSearch, Cond.selects RX1 yX1_speaksToSearch yX1_speaksToSearch, Cond.code yX1_speaksToSearch cX1_speaksToSearch 5 (some .boolean), Cond.fieldLink RX1 60 "LampLine$Lamp" "silent" "Z", Cond.methodLink RX1 131 yX3_number, Cond.methodLink RX1 135 yX0_write]
def wsL_ask_r7 : List Cond := [Cond.static yX0_write, Cond.initialized RX0, Cond.code yX0_write cX0_write 5 none, Cond.methodLink RX0 9 yX3_cut, Cond.methodLink RX0 17 yX3_put, Cond.methodLink RX0 20 yX3_sum, Cond.methodLink RX1 117 yX2_isCall, Cond.instanceMethod yX2_isCall, Cond.selects RX2 yX2_isCall yX2_isCall, Cond.code yX2_isCall cX2_isCall 1 (some .boolean), Cond.constantLong RX2 28 (4294967295), Cond.methodLink RX1 141 yX2_beginReply, Cond.instanceMethod yX2_beginReply, Cond.selects RX2 yX2_beginReply yX2_beginReply, Cond.code yX2_beginReply cX2_beginReply 4 none, Cond.methodLink RX1 145 yX3_putNumber, Cond.methodLink RX1 152 yX2_writeTo, Cond.methodLink RX1 121 yX1_speaksToOrder, Cond.instanceMethod yX1_speaksToOrder, Cond.selects RX1 yX1_speaksToOrder yX1_speaksToOrder, Cond.code yX1_speaksToOrder cX1_speaksToOrder 8 (some .boolean), Cond.fieldLink RX1 81 "LampLine$Lamp" "orders" "I", Cond.methodLink RX1 158 yX1_formRefusal, Cond.static yX1_formRefusal]
def wsL_ask_r8 : List Cond := [Cond.code yX1_formRefusal cX1_formRefusal 4 (some .int), Cond.methodLink RX1 177 yX1_isKnown, Cond.static yX1_isKnown, Cond.code yX1_isKnown cX1_isKnown 2 (some .boolean), Cond.fieldLink RX1 180 "LampLine$Lamp" "MATTERS" "[I", Cond.methodLink RX1 162 yX1_valueRefusal, Cond.instanceMethod yX1_valueRefusal, Cond.selects RX1 yX1_valueRefusal yX1_valueRefusal, Cond.code yX1_valueRefusal cX1_valueRefusal 6 (some .int), Cond.fieldLink RX1 43 "LampLine$Lamp" "modes" "I", Cond.static yX6_fits, Cond.code yX6_fits cX6_fits 2 (some .boolean), Cond.methodLink RX1 166 yX2_refuse, Cond.instanceMethod yX2_refuse, Cond.selects RX2 yX2_refuse yX2_refuse, Cond.code yX2_refuse cX2_refuse 2 none, Cond.methodLink RX1 169 yX1_obey, Cond.instanceMethod yX1_obey, Cond.selects RX1 yX1_obey yX1_obey, Cond.code yX1_obey cX1_obey 7 none, Cond.constantLong RX1 190 (3), Cond.fieldLink RX1 68 "LampLine$Lamp" "shows" "Z", Cond.methodLink RX1 173 yX1_tell, Cond.instanceMethod yX1_tell]
def wsL_ask_r9 : List Cond := [Cond.selects RX1 yX1_tell yX1_tell, Cond.code yX1_tell cX1_tell 6 none, Cond.methodLink RX1 192 yX3_put, Cond.static yX6_flag, Cond.code yX6_flag cX6_flag 1 (some .int), Cond.methodLink RX6 267 yX3_join, Cond.instanceMethod yX3_join, Cond.selects RX3 yX3_join yX3_join, Cond.code yX3_join cX3_join 3 none, Cond.methodLink RX6 270 yX5_applyTo, Cond.instanceMethod yX5_applyTo, Cond.selects RX5 yX5_applyTo yX5_applyTo, Cond.initialized RX5, Cond.code yX5_applyTo cX5_applyTo 3 none, Cond.fieldLink RX5 16 "LampLine$Spoils" "size" "I", Cond.fieldLink RX5 9 "LampLine$Spoils" "places" "[I", Cond.fieldLink RX5 13 "LampLine$Spoils" "masks" "[I", Cond.methodLink RX5 23 yX3_flip, Cond.instanceMethod yX3_flip, Cond.selects RX3 yX3_flip yX3_flip, Cond.code yX3_flip cX3_flip 3 none, Cond.methodLink RX6 148 yX6_isReplyFrom, Cond.instanceMethod yX6_isReplyFrom, Cond.selects RX6 yX6_isReplyFrom yX6_isReplyFrom]
def wsL_ask_r10 : List Cond := [Cond.code yX6_isReplyFrom cX6_isReplyFrom 3 (some .boolean)]
def wsL_ask : List Cond := .codeWith yL_ask cL_ask 9 (some .int) [(0, 17, 20, 13)] :: ((wsL_ask_r1 ++ (wsL_ask_r2 ++ (wsL_ask_r3 ++ (wsL_ask_r4 ++ (wsL_ask_r5 ++ (wsL_ask_r6 ++ (wsL_ask_r7 ++ (wsL_ask_r8 ++ (wsL_ask_r9 ++ wsL_ask_r10))))))))) ++ wsX60 ++ wsX20 ++ wsX30 ++ wsX10 ++ wsX50 ++ (vx_atS RX6 66 "java/lang/IllegalArgumentException" ["java/lang/RuntimeException", "java/lang/Exception"]).filter goodWord)
def wsL_spoil : List Cond := .codeWith yL_spoil cL_spoil 4 (some .int) [(0, 6, 9, 13)] :: ([.classLink RL 13 "java/lang/IllegalArgumentException", .methodLink RL 34 yX6_spoil, .instanceMethod yX6_spoil, .selects RX6 yX6_spoil yX6_spoil, .initialized RX6, .code yX6_spoil cX6_spoil 3 none, .classLink RX6 62 "java/lang/IllegalArgumentException", .initialized "java/lang/IllegalArgumentException", .fieldLink RX6 43 "LampLine" "spoils" "LLampLine$Spoils;", .methodLink RX6 156 yX5_add, .instanceMethod yX5_add, .selects RX5 yX5_add yX5_add, .initialized RX5, .code yX5_add cX5_add 3 none, .fieldLink RX5 16 "LampLine$Spoils" "size" "I", .fieldLink RX5 9 "LampLine$Spoils" "places" "[I", .fieldLink RX5 13 "LampLine$Spoils" "masks" "[I", .methodLink RX5 20 yX5_dropFirst, .instanceMethod yX5_dropFirst, .selects RX5 yX5_dropFirst yX5_dropFirst, .code yX5_dropFirst cX5_dropFirst 2 none] ++ wsX60 ++ wsX50 ++ (vx_atS RX6 66 "java/lang/IllegalArgumentException" ["java/lang/RuntimeException", "java/lang/Exception"]).filter goodWord)
def wsL_about_r1 : List Cond := [Cond.classLink RL 29 "java/lang/IndexOutOfBoundsException", Cond.methodLink RL 38 yX6_about, Cond.instanceMethod yX6_about, Cond.selects RX6 yX6_about yX6_about, Cond.initialized RX6, Cond.code yX6_about cX6_about 4 (some .int), Cond.classLink RX6 121 "java/lang/IndexOutOfBoundsException", Cond.initialized "java/lang/IndexOutOfBoundsException", Cond.fieldLink RX6 160 "LampLine" "frameCount" "I", Cond.methodLink RX6 163 yX6_lampAt, Cond.instanceMethod yX6_lampAt, Cond.selects RX6 yX6_lampAt yX6_lampAt, Cond.code yX6_lampAt cX6_lampAt 2 (some (.object "LampLine$Lamp")), Cond.fieldLink RX6 87 "LampLine" "lampCount" "I", Cond.fieldLink RX6 56 "LampLine" "lamps" "[LLampLine$Lamp;", Cond.methodLink RX6 169 yX1_fact, Cond.instanceMethod yX1_fact, Cond.selects RX1 yX1_fact yX1_fact, Cond.initialized RX1, Cond.code yX1_fact cX1_fact 3 (some .int), Cond.fieldLink RX1 36 "LampLine$Lamp" "id" "J", Cond.fieldLink RX1 32 "LampLine$Lamp" "mode" "I", Cond.fieldLink RX1 43 "LampLine$Lamp" "modes" "I", Cond.fieldLink RX1 46 "LampLine$Lamp" "address" "I"]
def wsL_about_r2 : List Cond := [Cond.fieldLink RX1 60 "LampLine$Lamp" "silent" "Z", Cond.fieldLink RX1 68 "LampLine$Lamp" "shows" "Z", Cond.fieldLink RX1 75 "LampLine$Lamp" "waiting" "I", Cond.fieldLink RX1 20 "LampLine$Lamp" "text" "LLampLine$Row;", Cond.fieldLink RX1 81 "LampLine$Lamp" "orders" "I", Cond.static yX6_makerOf, Cond.code yX6_makerOf cX6_makerOf 2 (some .int), Cond.methodLink RX1 56 yX1_footprint, Cond.instanceMethod yX1_footprint, Cond.selects RX1 yX1_footprint yX1_footprint, Cond.code yX1_footprint cX1_footprint 1 (some .int), Cond.fieldLink RX1 40 "LampLine$Lamp" "width" "I", Cond.static yX6_flag, Cond.code yX6_flag cX6_flag 1 (some .int), Cond.methodLink RX1 71 yX1_isDark, Cond.instanceMethod yX1_isDark, Cond.selects RX1 yX1_isDark yX1_isDark, Cond.code yX1_isDark cX1_isDark 2 (some .boolean), Cond.fieldLink RX1 49 "LampLine$Lamp" "litAt" "I", Cond.methodLink RX1 78 yX3_size, Cond.instanceMethod yX3_size, Cond.selects RX3 yX3_size yX3_size, Cond.initialized RX3, Cond.code yX3_size cX3_size 1 (some .int)]
def wsL_about_r3 : List Cond := [Cond.fieldLink RX3 13 "LampLine$Row" "size" "I"]
def wsL_about : List Cond := .codeWith yL_about cL_about 5 (some .int) [(0, 10, 13, 29)] :: ((wsL_about_r1 ++ (wsL_about_r2 ++ wsL_about_r3)) ++ wsX60 ++ wsX10 ++ wsX30 ++ (vx_atS RX6 125 "java/lang/IndexOutOfBoundsException" ["java/lang/RuntimeException", "java/lang/Exception"]).filter goodWord)
def wsL_rest : List Cond := .codeWith yL_rest cL_rest 4 (some .int) [(0, 8, 11, 29)] :: ([.classLink RL 29 "java/lang/IndexOutOfBoundsException", .methodLink RL 42 yX6_rest, .instanceMethod yX6_rest, .selects RX6 yX6_rest yX6_rest, .initialized RX6, .code yX6_rest cX6_rest 2 (some .long), .methodLink RX6 163 yX6_lampAt, .instanceMethod yX6_lampAt, .selects RX6 yX6_lampAt yX6_lampAt, .code yX6_lampAt cX6_lampAt 2 (some (.object "LampLine$Lamp")), .classLink RX6 121 "java/lang/IndexOutOfBoundsException", .initialized "java/lang/IndexOutOfBoundsException", .fieldLink RX6 87 "LampLine" "lampCount" "I", .fieldLink RX6 56 "LampLine" "lamps" "[LLampLine$Lamp;", .methodLink RX6 177 yX6_restOf, .static yX6_restOf, .code yX6_restOf cX6_restOf 2 (some .long), .constantLong RX6 60 (4294967295)] ++ wsX10 ++ wsX60 ++ (vx_atS RX6 125 "java/lang/IndexOutOfBoundsException" ["java/lang/RuntimeException", "java/lang/Exception"]).filter goodWord)
def wsL_level_r1 : List Cond := [Cond.classLink RL 29 "java/lang/IndexOutOfBoundsException", Cond.methodLink RL 46 yX6_level, Cond.instanceMethod yX6_level, Cond.selects RX6 yX6_level yX6_level, Cond.initialized RX6, Cond.code yX6_level cX6_level 4 (some .int), Cond.classLink RX6 121 "java/lang/IndexOutOfBoundsException", Cond.initialized "java/lang/IndexOutOfBoundsException", Cond.methodLink RX6 163 yX6_lampAt, Cond.instanceMethod yX6_lampAt, Cond.selects RX6 yX6_lampAt yX6_lampAt, Cond.code yX6_lampAt cX6_lampAt 2 (some (.object "LampLine$Lamp")), Cond.fieldLink RX6 87 "LampLine" "lampCount" "I", Cond.fieldLink RX6 56 "LampLine" "lamps" "[LLampLine$Lamp;", Cond.methodLink RX6 181 yX1_footprint, Cond.instanceMethod yX1_footprint, Cond.selects RX1 yX1_footprint yX1_footprint, Cond.initialized RX1, Cond.code yX1_footprint cX1_footprint 1 (some .int), Cond.fieldLink RX1 40 "LampLine$Lamp" "width" "I", Cond.fieldLink RX1 32 "LampLine$Lamp" "mode" "I", Cond.methodLink RX6 186 yX1_levelAt, Cond.instanceMethod yX1_levelAt, Cond.selects RX1 yX1_levelAt yX1_levelAt]
def wsL_level_r2 : List Cond := [Cond.code yX1_levelAt cX1_levelAt 2 (some .int), Cond.fieldLink RX1 9 "LampLine$Lamp" "levels" "[I"]
def wsL_level : List Cond := .codeWith yL_level cL_level 5 (some .int) [(0, 10, 13, 29)] :: ((wsL_level_r1 ++ wsL_level_r2) ++ wsX60 ++ wsX10 ++ (vx_atS RX6 125 "java/lang/IndexOutOfBoundsException" ["java/lang/RuntimeException", "java/lang/Exception"]).filter goodWord)
def wsL_label_r1 : List Cond := [Cond.classLink RL 29 "java/lang/IndexOutOfBoundsException", Cond.methodLink RL 49 yX6_label, Cond.instanceMethod yX6_label, Cond.selects RX6 yX6_label yX6_label, Cond.initialized RX6, Cond.code yX6_label cX6_label 4 (some .int), Cond.classLink RX6 121 "java/lang/IndexOutOfBoundsException", Cond.initialized "java/lang/IndexOutOfBoundsException", Cond.methodLink RX6 163 yX6_lampAt, Cond.instanceMethod yX6_lampAt, Cond.selects RX6 yX6_lampAt yX6_lampAt, Cond.code yX6_lampAt cX6_lampAt 2 (some (.object "LampLine$Lamp")), Cond.fieldLink RX6 87 "LampLine" "lampCount" "I", Cond.fieldLink RX6 56 "LampLine" "lamps" "[LLampLine$Lamp;", Cond.methodLink RX6 99 yX3_size, Cond.instanceMethod yX3_size, Cond.selects RX3 yX3_size yX3_size, Cond.initialized RX3, Cond.code yX3_size cX3_size 1 (some .int), Cond.fieldLink RX3 13 "LampLine$Row" "size" "I", Cond.methodLink RX6 126 yX3_at, Cond.instanceMethod yX3_at, Cond.selects RX3 yX3_at yX3_at, Cond.code yX3_at cX3_at 2 (some .int)]
def wsL_label_r2 : List Cond := [Cond.fieldLink RX3 7 "LampLine$Row" "cells" "[I"]
def wsL_label : List Cond := .codeWith yL_label cL_label 5 (some .int) [(0, 10, 13, 29)] :: ((wsL_label_r1 ++ wsL_label_r2) ++ wsX10 ++ wsX60 ++ wsX30 ++ (vx_atS RX6 125 "java/lang/IndexOutOfBoundsException" ["java/lang/RuntimeException", "java/lang/Exception"]).filter goodWord)
def wsL_silence : List Cond := .codeWith yL_silence cL_silence 5 (some .int) [(0, 10, 13, 29)] :: ([.classLink RL 29 "java/lang/IndexOutOfBoundsException", .methodLink RL 52 yX6_silence, .instanceMethod yX6_silence, .selects RX6 yX6_silence yX6_silence, .initialized RX6, .code yX6_silence cX6_silence 5 (some .int), .methodLink RX6 163 yX6_lampAt, .instanceMethod yX6_lampAt, .selects RX6 yX6_lampAt yX6_lampAt, .code yX6_lampAt cX6_lampAt 2 (some (.object "LampLine$Lamp")), .classLink RX6 121 "java/lang/IndexOutOfBoundsException", .initialized "java/lang/IndexOutOfBoundsException", .fieldLink RX6 87 "LampLine" "lampCount" "I", .fieldLink RX6 56 "LampLine" "lamps" "[LLampLine$Lamp;", .methodLink RX6 198 yX6_flag, .static yX6_flag, .code yX6_flag cX6_flag 1 (some .int)] ++ wsX10 ++ wsX60 ++ (vx_atS RX6 125 "java/lang/IndexOutOfBoundsException" ["java/lang/RuntimeException", "java/lang/Exception"]).filter goodWord)
def wsL_step_r1 : List Cond := [Cond.classLink RL 15 "java/lang/IllegalStateException", Cond.classLink RL 13 "java/lang/IllegalArgumentException", Cond.methodLink RL 56 yX6_step, Cond.instanceMethod yX6_step, Cond.selects RX6 yX6_step yX6_step, Cond.initialized RX6, Cond.code yX6_step cX6_step 3 (some .int), Cond.classLink RX6 91 "java/lang/IllegalStateException", Cond.initialized "java/lang/IllegalStateException", Cond.classLink RX6 62 "java/lang/IllegalArgumentException", Cond.initialized "java/lang/IllegalArgumentException", Cond.fieldLink RX6 50 "LampLine" "hunt" "LLampLine$Search;", Cond.methodLink RX6 220 yX6_takeStep, Cond.instanceMethod yX6_takeStep, Cond.selects RX6 yX6_takeStep yX6_takeStep, Cond.code yX6_takeStep cX6_takeStep 10 none, Cond.constantLong RX6 60 (4294967295), Cond.fieldLink RX6 26 "LampLine" "heardAnswer" "LLampLine$Row;", Cond.methodLink RX6 237 yX4_latestLow, Cond.instanceMethod yX4_latestLow, Cond.selects RX4 yX4_latestLow yX4_latestLow, Cond.initialized RX4, Cond.code yX4_latestLow cX4_latestLow 1 (some .long), Cond.fieldLink RX4 25 "LampLine$Search" "depth" "I"]
def wsL_step_r2 : List Cond := [Cond.fieldLink RX4 11 "LampLine$Search" "lows" "[J", Cond.constantLong RX4 41 (-1), Cond.methodLink RX6 241 yX4_latestHigh, Cond.instanceMethod yX4_latestHigh, Cond.selects RX4 yX4_latestHigh yX4_latestHigh, Cond.code yX4_latestHigh cX4_latestHigh 1 (some .long), Cond.fieldLink RX4 15 "LampLine$Search" "highs" "[J", Cond.methodLink RX6 293 yX4_takeLatest, Cond.instanceMethod yX4_takeLatest, Cond.selects RX4 yX4_takeLatest yX4_takeLatest, Cond.code yX4_takeLatest cX4_takeLatest 1 none, Cond.fieldLink RX4 32 "LampLine$Search" "steps" "I", Cond.methodLink RX6 177 yX6_restOf, Cond.static yX6_restOf, Cond.code yX6_restOf cX6_restOf 2 (some .long), Cond.methodLink RX6 296 yX6_tryId, Cond.instanceMethod yX6_tryId, Cond.selects RX6 yX6_tryId yX6_tryId, Cond.code yX6_tryId cX6_tryId 3 (some .int), Cond.fieldLink RX6 34 "LampLine" "heard" "LLampLine$Packet;", Cond.methodLink RX6 207 yX6_writeSearch, Cond.instanceMethod yX6_writeSearch, Cond.selects RX6 yX6_writeSearch yX6_writeSearch, Cond.code yX6_writeSearch cX6_writeSearch 4 none]
def wsL_step_r3 : List Cond := [Cond.fieldLink RX6 30 "LampLine" "question" "LLampLine$Packet;", Cond.fieldLink RX6 18 "LampLine" "frame" "LLampLine$Row;", Cond.methodLink RX6 135 yX6_beginQuestion, Cond.instanceMethod yX6_beginQuestion, Cond.selects RX6 yX6_beginQuestion yX6_beginQuestion, Cond.code yX6_beginQuestion cX6_beginQuestion 5 none, Cond.fieldLink RX6 273 "LampLine" "questionCount" "I", Cond.constantLong RX6 276 (140728898420737), Cond.methodLink RX6 111 yX3_cut, Cond.instanceMethod yX3_cut, Cond.selects RX3 yX3_cut yX3_cut, Cond.initialized RX3, Cond.code yX3_cut cX3_cut 2 none, Cond.fieldLink RX3 13 "LampLine$Row" "size" "I", Cond.methodLink RX6 145 yX2_writeTo, Cond.instanceMethod yX2_writeTo, Cond.selects RX2 yX2_writeTo yX2_writeTo, Cond.initialized RX2, Cond.code yX2_writeTo cX2_writeTo 4 none, Cond.fieldLink RX2 16 "LampLine$Packet" "data" "LLampLine$Row;", Cond.fieldLink RX2 20 "LampLine$Packet" "to" "J", Cond.fieldLink RX2 46 "LampLine$Packet" "from" "J", Cond.fieldLink RX2 49 "LampLine$Packet" "count" "I", Cond.fieldLink RX2 53 "LampLine$Packet" "kind" "I"]
def wsL_step_r4 : List Cond := [Cond.fieldLink RX2 56 "LampLine$Packet" "messages" "I", Cond.fieldLink RX2 59 "LampLine$Packet" "part" "I", Cond.fieldLink RX2 62 "LampLine$Packet" "group" "I", Cond.fieldLink RX2 65 "LampLine$Packet" "matter" "I", Cond.methodLink RX2 34 yX3_size, Cond.instanceMethod yX3_size, Cond.selects RX3 yX3_size yX3_size, Cond.code yX3_size cX3_size 1 (some .int), Cond.methodLink RX2 68 yX3_cut, Cond.methodLink RX2 71 yX3_put, Cond.instanceMethod yX3_put, Cond.selects RX3 yX3_put yX3_put, Cond.code yX3_put cX3_put 2 none, Cond.fieldLink RX3 7 "LampLine$Row" "cells" "[I", Cond.methodLink RX2 74 yX3_putNumber, Cond.instanceMethod yX3_putNumber, Cond.selects RX3 yX3_putNumber yX3_putNumber, Cond.code yX3_putNumber cX3_putNumber 5 none, Cond.methodLink RX2 30 yX3_at, Cond.instanceMethod yX3_at, Cond.selects RX3 yX3_at yX3_at, Cond.code yX3_at cX3_at 2 (some .int), Cond.methodLink RX2 38 yX3_sum, Cond.instanceMethod yX3_sum]
def wsL_step_r5 : List Cond := [Cond.selects RX3 yX3_sum yX3_sum, Cond.code yX3_sum cX3_sum 5 (some .int), Cond.constant RX3 21 (65535), Cond.methodLink RX6 118 yX6_runFrame, Cond.instanceMethod yX6_runFrame, Cond.selects RX6 yX6_runFrame yX6_runFrame, Cond.code yX6_runFrame cX6_runFrame 5 none, Cond.fieldLink RX6 160 "LampLine" "frameCount" "I", Cond.fieldLink RX6 87 "LampLine" "lampCount" "I", Cond.fieldLink RX6 56 "LampLine" "lamps" "[LLampLine$Lamp;", Cond.fieldLink RX6 37 "LampLine" "reply" "LLampLine$Packet;", Cond.fieldLink RX6 23 "LampLine" "voice" "LLampLine$Row;", Cond.fieldLink RX6 43 "LampLine" "spoils" "LLampLine$Spoils;", Cond.methodLink RX6 99 yX3_size, Cond.methodLink RX6 126 yX3_at, Cond.methodLink RX6 246 yX2_readFrom, Cond.instanceMethod yX2_readFrom, Cond.selects RX2 yX2_readFrom yX2_readFrom, Cond.code yX2_readFrom cX2_readFrom 4 (some .boolean), Cond.methodLink RX2 42 yX3_number, Cond.instanceMethod yX3_number, Cond.selects RX3 yX3_number yX3_number, Cond.code yX3_number cX3_number 6 (some .long), Cond.methodLink RX3 17 yX3_at]
def wsL_step_r6 : List Cond := [Cond.methodLink RX6 250 yX1_ripen, Cond.instanceMethod yX1_ripen, Cond.selects RX1 yX1_ripen yX1_ripen, Cond.initialized RX1, Cond.code yX1_ripen cX1_ripen 3 none, Cond.fieldLink RX1 28 "LampLine$Lamp" "isLater" "[Z", Cond.fieldLink RX1 20 "LampLine$Lamp" "text" "LLampLine$Row;", Cond.fieldLink RX1 24 "LampLine$Lamp" "laterTexts" "[LLampLine$Row;", Cond.fieldLink RX1 88 "LampLine$Lamp" "onTheWay" "I", Cond.fieldLink RX1 75 "LampLine$Lamp" "waiting" "I", Cond.methodLink RX1 84 yX3_copyFrom, Cond.instanceMethod yX3_copyFrom, Cond.selects RX3 yX3_copyFrom yX3_copyFrom, Cond.code yX3_copyFrom cX3_copyFrom 3 none, Cond.methodLink RX6 253 yX1_shine, Cond.instanceMethod yX1_shine, Cond.selects RX1 yX1_shine yX1_shine, Cond.code yX1_shine cX1_shine 5 none, Cond.fieldLink RX1 46 "LampLine$Lamp" "address" "I", Cond.fieldLink RX1 49 "LampLine$Lamp" "litAt" "I", Cond.methodLink RX1 91 Lib.Math.min.name, Cond.static Lib.Math.min.name, Cond.initialized "java/lang/Math", Cond.code Lib.Math.min.name Lib.Math.min.code 2 (some .int)]
def wsL_step_r7 : List Cond := [Cond.fieldLink RX1 9 "LampLine$Lamp" "levels" "[I", Cond.methodLink RX1 78 yX3_size, Cond.methodLink RX1 56 yX1_footprint, Cond.instanceMethod yX1_footprint, Cond.selects RX1 yX1_footprint yX1_footprint, Cond.code yX1_footprint cX1_footprint 1 (some .int), Cond.fieldLink RX1 40 "LampLine$Lamp" "width" "I", Cond.fieldLink RX1 32 "LampLine$Lamp" "mode" "I", Cond.methodLink RX1 97 yX3_at, Cond.methodLink RX6 260 yX1_isMeantBy, Cond.instanceMethod yX1_isMeantBy, Cond.selects RX1 yX1_isMeantBy yX1_isMeantBy, Cond.code yX1_isMeantBy cX1_isMeantBy 3 (some .boolean), Cond.constantLong RX1 105 (4294967295), Cond.fieldLink RX1 36 "LampLine$Lamp" "id" "J", Cond.constant RX1 107 (65535), Cond.static yX6_makerOf, Cond.code yX6_makerOf cX6_makerOf 2 (some .int), Cond.methodLink RX6 263 yX1_speaksTo, Cond.instanceMethod yX1_speaksTo, Cond.selects RX1 yX1_speaksTo yX1_speaksTo, Cond.code yX1_speaksTo cX1_speaksTo 5 (some .boolean), Cond.methodLink RX1 113 yX1_speaksToSearch, Cond.instanceMethod yX1_speaksToSearch]
def wsL_step_r8 : List Cond := [Cond.selects RX1 yX1_speaksToSearch yX1_speaksToSearch, Cond.code yX1_speaksToSearch cX1_speaksToSearch 5 (some .boolean), Cond.fieldLink RX1 60 "LampLine$Lamp" "silent" "Z", Cond.methodLink RX1 131 yX3_number, Cond.methodLink RX1 135 yX0_write, Cond.static yX0_write, Cond.initialized RX0, Cond.code yX0_write cX0_write 5 none, Cond.methodLink RX0 9 yX3_cut, Cond.methodLink RX0 17 yX3_put, Cond.methodLink RX0 20 yX3_sum, Cond.methodLink RX1 117 yX2_isCall, Cond.instanceMethod yX2_isCall, Cond.selects RX2 yX2_isCall yX2_isCall, Cond.code yX2_isCall cX2_isCall 1 (some .boolean), Cond.constantLong RX2 28 (4294967295), Cond.methodLink RX1 141 yX2_beginReply, Cond.instanceMethod yX2_beginReply, Cond.selects RX2 yX2_beginReply yX2_beginReply, Cond.code yX2_beginReply cX2_beginReply 4 none, Cond.methodLink RX1 145 yX3_putNumber, Cond.methodLink RX1 152 yX2_writeTo, Cond.methodLink RX1 121 yX1_speaksToOrder, Cond.instanceMethod yX1_speaksToOrder]
def wsL_step_r9 : List Cond := [Cond.selects RX1 yX1_speaksToOrder yX1_speaksToOrder, Cond.code yX1_speaksToOrder cX1_speaksToOrder 8 (some .boolean), Cond.fieldLink RX1 81 "LampLine$Lamp" "orders" "I", Cond.methodLink RX1 158 yX1_formRefusal, Cond.static yX1_formRefusal, Cond.code yX1_formRefusal cX1_formRefusal 4 (some .int), Cond.methodLink RX1 177 yX1_isKnown, Cond.static yX1_isKnown, Cond.code yX1_isKnown cX1_isKnown 2 (some .boolean), Cond.fieldLink RX1 180 "LampLine$Lamp" "MATTERS" "[I", Cond.methodLink RX1 162 yX1_valueRefusal, Cond.instanceMethod yX1_valueRefusal, Cond.selects RX1 yX1_valueRefusal yX1_valueRefusal, Cond.code yX1_valueRefusal cX1_valueRefusal 6 (some .int), Cond.fieldLink RX1 43 "LampLine$Lamp" "modes" "I", Cond.static yX6_fits, Cond.code yX6_fits cX6_fits 2 (some .boolean), Cond.methodLink RX1 166 yX2_refuse, Cond.instanceMethod yX2_refuse, Cond.selects RX2 yX2_refuse yX2_refuse, Cond.code yX2_refuse cX2_refuse 2 none, Cond.methodLink RX1 169 yX1_obey, Cond.instanceMethod yX1_obey, Cond.selects RX1 yX1_obey yX1_obey]
def wsL_step_r10 : List Cond := [Cond.code yX1_obey cX1_obey 7 none, Cond.constantLong RX1 190 (3), Cond.fieldLink RX1 68 "LampLine$Lamp" "shows" "Z", Cond.methodLink RX1 173 yX1_tell, Cond.instanceMethod yX1_tell, Cond.selects RX1 yX1_tell yX1_tell, Cond.code yX1_tell cX1_tell 6 none, Cond.methodLink RX1 192 yX3_put, Cond.static yX6_flag, Cond.code yX6_flag cX6_flag 1 (some .int), Cond.methodLink RX6 267 yX3_join, Cond.instanceMethod yX3_join, Cond.selects RX3 yX3_join yX3_join, Cond.code yX3_join cX3_join 3 none, Cond.methodLink RX6 270 yX5_applyTo, Cond.instanceMethod yX5_applyTo, Cond.selects RX5 yX5_applyTo yX5_applyTo, Cond.initialized RX5, Cond.code yX5_applyTo cX5_applyTo 3 none, Cond.fieldLink RX5 16 "LampLine$Spoils" "size" "I", Cond.fieldLink RX5 9 "LampLine$Spoils" "places" "[I", Cond.fieldLink RX5 13 "LampLine$Spoils" "masks" "[I", Cond.methodLink RX5 23 yX3_flip, Cond.instanceMethod yX3_flip]
def wsL_step_r11 : List Cond := [Cond.selects RX3 yX3_flip yX3_flip, Cond.code yX3_flip cX3_flip 3 none, Cond.methodLink RX6 148 yX6_isReplyFrom, Cond.instanceMethod yX6_isReplyFrom, Cond.selects RX6 yX6_isReplyFrom yX6_isReplyFrom, Cond.code yX6_isReplyFrom cX6_isReplyFrom 3 (some .boolean), Cond.methodLink RX6 316 yX4_keepFound, Cond.instanceMethod yX4_keepFound, Cond.selects RX4 yX4_keepFound yX4_keepFound, Cond.code yX4_keepFound cX4_keepFound 3 none, Cond.fieldLink RX4 29 "LampLine$Search" "foundCount" "I", Cond.fieldLink RX4 18 "LampLine$Search" "foundIds" "[J", Cond.methodLink RX4 43 yX4_hasFound, Cond.instanceMethod yX4_hasFound, Cond.selects RX4 yX4_hasFound yX4_hasFound, Cond.code yX4_hasFound cX4_hasFound 4 (some .boolean), Cond.methodLink RX6 300 yX4_pile, Cond.instanceMethod yX4_pile, Cond.selects RX4 yX4_pile yX4_pile, Cond.code yX4_pile cX4_pile 5 none, Cond.methodLink RX6 304 yX6_writeBranchSearch, Cond.instanceMethod yX6_writeBranchSearch, Cond.selects RX6 yX6_writeBranchSearch yX6_writeBranchSearch, Cond.code yX6_writeBranchSearch cX6_writeBranchSearch 5 none]
def wsL_step_r12 : List Cond := [Cond.constantLong RX6 205 (281474976710655), Cond.methodLink RX6 105 yX3_putNumber, Cond.methodLink RX6 307 yX0_read, Cond.static yX0_read, Cond.code yX0_read cX0_read 6 (some .long), Cond.constantLong RX0 28 (-1), Cond.constantLong RX0 34 (65535), Cond.methodLink RX0 24 yX3_size, Cond.methodLink RX0 30 yX3_at, Cond.methodLink RX6 313 yX4_hasFound]
def wsL_step : List Cond := .codeWith yL_step cL_step 4 (some .int) [(0, 9, 12, 15), (0, 9, 15, 13)] :: ((wsL_step_r1 ++ (wsL_step_r2 ++ (wsL_step_r3 ++ (wsL_step_r4 ++ (wsL_step_r5 ++ (wsL_step_r6 ++ (wsL_step_r7 ++ (wsL_step_r8 ++ (wsL_step_r9 ++ (wsL_step_r10 ++ (wsL_step_r11 ++ wsL_step_r12))))))))))) ++ wsX60 ++ wsX40 ++ wsX20 ++ wsX30 ++ wsX10 ++ wsX50 ++ (vx_atS RX6 95 "java/lang/IllegalStateException" ["java/lang/RuntimeException", "java/lang/Exception"]).filter goodWord ++ (vx_atS RX6 66 "java/lang/IllegalArgumentException" ["java/lang/RuntimeException", "java/lang/Exception"]).filter goodWord)
def wsL_id : List Cond := .codeWith yL_id cL_id 4 (some .int) [(0, 8, 11, 29)] :: ([.classLink RL 29 "java/lang/IndexOutOfBoundsException", .methodLink RL 59 yX6_id, .instanceMethod yX6_id, .selects RX6 yX6_id yX6_id, .initialized RX6, .code yX6_id cX6_id 2 (some .long), .classLink RX6 121 "java/lang/IndexOutOfBoundsException", .initialized "java/lang/IndexOutOfBoundsException", .fieldLink RX6 50 "LampLine" "hunt" "LLampLine$Search;"] ++ wsX60 ++ wsX40 ++ (vx_atS RX6 125 "java/lang/IndexOutOfBoundsException" ["java/lang/RuntimeException", "java/lang/Exception"]).filter goodWord)
def wsL_branch : List Cond := .codeWith yL_branch cL_branch 4 (some .int) [(0, 8, 11, 29)] :: ([.classLink RL 29 "java/lang/IndexOutOfBoundsException", .methodLink RL 62 yX6_branch, .instanceMethod yX6_branch, .selects RX6 yX6_branch yX6_branch, .initialized RX6, .code yX6_branch cX6_branch 2 (some .long), .classLink RX6 121 "java/lang/IndexOutOfBoundsException", .initialized "java/lang/IndexOutOfBoundsException", .fieldLink RX6 50 "LampLine" "hunt" "LLampLine$Search;", .methodLink RX6 237 yX4_latestLow, .instanceMethod yX4_latestLow, .selects RX4 yX4_latestLow yX4_latestLow, .initialized RX4, .code yX4_latestLow cX4_latestLow 1 (some .long), .fieldLink RX4 25 "LampLine$Search" "depth" "I", .fieldLink RX4 11 "LampLine$Search" "lows" "[J", .constantLong RX4 41 (-1), .methodLink RX6 241 yX4_latestHigh, .instanceMethod yX4_latestHigh, .selects RX4 yX4_latestHigh yX4_latestHigh, .code yX4_latestHigh cX4_latestHigh 1 (some .long), .fieldLink RX4 15 "LampLine$Search" "highs" "[J"] ++ wsX60 ++ wsX40 ++ (vx_atS RX6 125 "java/lang/IndexOutOfBoundsException" ["java/lang/RuntimeException", "java/lang/Exception"]).filter goodWord)
def wsL_law0_r1 : List Cond := [Cond.classLink RL 8 RX6, Cond.instantiable RX6 13, Cond.initialized RX6, Cond.classLink RL 66 RX7, Cond.instantiable RX7 39, Cond.initialized RX7, Cond.arrayClass .long, Cond.constantLong RL 69 (4294967295), Cond.methodLink RL 65 yX6_init, Cond.instanceMethod yX6_init, Cond.code yX6_init cX6_init 1 none, Cond.methodLink RX6 1 objectInit, Cond.instanceMethod objectInit, Cond.code objectInit ⟨#[0xb1]⟩ 1 none, Cond.classLink RX6 7 RX3, Cond.instantiable RX3 2, Cond.initialized RX3, Cond.fieldLink RX6 14 "LampLine" "tape" "LLampLine$Row;", Cond.fieldLink RX6 18 "LampLine" "frame" "LLampLine$Row;", Cond.fieldLink RX6 23 "LampLine" "voice" "LLampLine$Row;", Cond.fieldLink RX6 26 "LampLine" "heardAnswer" "LLampLine$Row;", Cond.classLink RX6 21 RX2, Cond.instantiable RX2 9, Cond.initialized RX2]
def wsL_law0_r2 : List Cond := [Cond.fieldLink RX6 30 "LampLine" "question" "LLampLine$Packet;", Cond.fieldLink RX6 34 "LampLine" "heard" "LLampLine$Packet;", Cond.fieldLink RX6 37 "LampLine" "reply" "LLampLine$Packet;", Cond.classLink RX6 40 RX5, Cond.instantiable RX5 3, Cond.initialized RX5, Cond.fieldLink RX6 43 "LampLine" "spoils" "LLampLine$Spoils;", Cond.classLink RX6 47 RX4, Cond.instantiable RX4 7, Cond.initialized RX4, Cond.fieldLink RX6 50 "LampLine" "hunt" "LLampLine$Search;", Cond.classLink RX6 54 RX1, Cond.fieldLink RX6 56 "LampLine" "lamps" "[LLampLine$Lamp;", Cond.methodLink RX6 11 yX3_init, Cond.instanceMethod yX3_init, Cond.code yX3_init cX3_init 2 none, Cond.methodLink RX3 1 objectInit, Cond.arrayClass .int, Cond.fieldLink RX3 7 "LampLine$Row" "cells" "[I", Cond.instanceMethod yX2_init, Cond.code yX2_init cX2_init 1 none, Cond.methodLink RX2 5 objectInit, Cond.classLink RX2 11 RX3, Cond.fieldLink RX2 16 "LampLine$Packet" "data" "LLampLine$Row;"]
def wsL_law0_r3 : List Cond := [Cond.methodLink RX2 13 yX3_init, Cond.instanceMethod yX5_init, Cond.code yX5_init cX5_init 1 none, Cond.methodLink RX5 1 objectInit, Cond.fieldLink RX5 9 "LampLine$Spoils" "places" "[I", Cond.fieldLink RX5 13 "LampLine$Spoils" "masks" "[I", Cond.instanceMethod yX4_init, Cond.code yX4_init cX4_init 1 none, Cond.methodLink RX4 3 objectInit, Cond.fieldLink RX4 11 "LampLine$Search" "lows" "[J", Cond.fieldLink RX4 15 "LampLine$Search" "highs" "[J", Cond.fieldLink RX4 18 "LampLine$Search" "foundIds" "[J", Cond.methodLink RL 68 yX7_init, Cond.instanceMethod yX7_init, Cond.code yX7_init cX7_init 1 none, Cond.methodLink RX7 1 objectInit, Cond.fieldLink RX7 7 "LampLineModel" "maker" "[I", Cond.fieldLink RX7 13 "LampLineModel" "rest" "[J", Cond.fieldLink RX7 17 "LampLineModel" "width" "[I", Cond.fieldLink RX7 20 "LampLineModel" "modes" "[I", Cond.fieldLink RX7 23 "LampLineModel" "mode" "[I", Cond.fieldLink RX7 26 "LampLineModel" "address" "[I", Cond.arrayClass .boolean, Cond.fieldLink RX7 29 "LampLineModel" "silent" "[Z"]
def wsL_law0_r4 : List Cond := [Cond.fieldLink RX7 33 "LampLineModel" "shows" "[Z", Cond.fieldLink RX7 36 "LampLineModel" "labelSize" "[I", Cond.arrayClass .byte, Cond.fieldLink RX7 39 "LampLineModel" "label" "[B", Cond.fieldLink RX7 43 "LampLineModel" "asked" "[I", Cond.fieldLink RX7 46 "LampLineModel" "levels" "[I", Cond.fieldLink RX7 49 "LampLineModel" "lit" "[I", Cond.fieldLink RX7 52 "LampLineModel" "laters" "[I", Cond.fieldLink RX7 55 "LampLineModel" "due" "[I", Cond.fieldLink RX7 58 "LampLineModel" "laterSize" "[I", Cond.fieldLink RX7 61 "LampLineModel" "laterBytes" "[B", Cond.fieldLink RX7 64 "LampLineModel" "tape" "[B", Cond.fieldLink RX7 67 "LampLineModel" "frame" "[B", Cond.fieldLink RX7 70 "LampLineModel" "answer" "[B", Cond.fieldLink RX7 73 "LampLineModel" "reply" "[B", Cond.fieldLink RX7 76 "LampLineModel" "spoilAt" "[I", Cond.fieldLink RX7 79 "LampLineModel" "spoilMask" "[I", Cond.fieldLink RX7 82 "LampLineModel" "low" "[J", Cond.fieldLink RX7 85 "LampLineModel" "high" "[J", Cond.fieldLink RX7 88 "LampLineModel" "foundId" "[J", Cond.methodLink RL 71 yL_lamp, Cond.static yL_lamp, Cond.initialized RL, Cond.codeWith yL_lamp cL_lamp 9 (some .int) [(0, 17, 20, 13), (0, 17, 24, 15)]]
def wsL_law0_r5 : List Cond := [Cond.classLink RL 13 "java/lang/IllegalArgumentException", Cond.classLink RL 15 "java/lang/IllegalStateException", Cond.methodLink RL 7 yX6_lamp, Cond.instanceMethod yX6_lamp, Cond.selects RX6 yX6_lamp yX6_lamp, Cond.code yX6_lamp cX6_lamp 9 (some .int), Cond.classLink RX6 62 "java/lang/IllegalArgumentException", Cond.initialized "java/lang/IllegalArgumentException", Cond.classLink RX6 91 "java/lang/IllegalStateException", Cond.initialized "java/lang/IllegalStateException", Cond.constantLong RX6 60 (4294967295), Cond.fieldLink RX6 87 "LampLine" "lampCount" "I", Cond.instantiable RX1 15, Cond.initialized RX1, Cond.methodLink RX6 71 yX6_fits, Cond.static yX6_fits, Cond.code yX6_fits cX6_fits 2 (some .boolean), Cond.methodLink RX6 77 yX6_joinedId, Cond.static yX6_joinedId, Cond.code yX6_joinedId cX6_joinedId 3 (some .long), Cond.methodLink RX6 81 yX6_isThere, Cond.instanceMethod yX6_isThere, Cond.selects RX6 yX6_isThere yX6_isThere, Cond.code yX6_isThere cX6_isThere 4 (some .boolean)]
def wsL_law0_r6 : List Cond := [Cond.methodLink RX6 96 yX1_init, Cond.instanceMethod yX1_init, Cond.code yX1_init cX1_init 7 none, Cond.methodLink RX1 3 objectInit, Cond.fieldLink RX1 9 "LampLine$Lamp" "levels" "[I", Cond.classLink RX1 15 RX3, Cond.fieldLink RX1 20 "LampLine$Lamp" "text" "LLampLine$Row;", Cond.fieldLink RX1 24 "LampLine$Lamp" "laterTexts" "[LLampLine$Row;", Cond.fieldLink RX1 28 "LampLine$Lamp" "isLater" "[Z", Cond.fieldLink RX1 32 "LampLine$Lamp" "mode" "I", Cond.fieldLink RX1 36 "LampLine$Lamp" "id" "J", Cond.fieldLink RX1 40 "LampLine$Lamp" "width" "I", Cond.fieldLink RX1 43 "LampLine$Lamp" "modes" "I", Cond.fieldLink RX1 46 "LampLine$Lamp" "address" "I", Cond.methodLink RX1 17 yX3_init, Cond.methodLink RL 76 yX7_lamp, Cond.instanceMethod yX7_lamp, Cond.selects RX7 yX7_lamp yX7_lamp, Cond.code yX7_lamp cX7_lamp 9 (some .int), Cond.constantLong RX7 99 (32767), Cond.constantLong RX7 105 (4294967294), Cond.constantLong RX7 107 (64), Cond.constantLong RX7 109 (8), Cond.constantLong RX7 111 (512)]
def wsL_law0_r7 : List Cond := [Cond.fieldLink RX7 113 "LampLineModel" "lamps" "I", Cond.fieldLink RX7 91 "LampLineModel" "thrown" "I", Cond.methodLink RX7 101 yX7_in, Cond.static yX7_in, Cond.code yX7_in cX7_in 6 (some .boolean), Cond.methodLink RL 77 yX7_thrown, Cond.instanceMethod yX7_thrown, Cond.selects RX7 yX7_thrown yX7_thrown, Cond.code yX7_thrown cX7_thrown 1 (some .int), Cond.methodLink RL 81 yL_feed, Cond.static yL_feed, Cond.codeWith yL_feed cL_feed 8 (some .int) [(0, 16, 19, 15)], Cond.methodLink RL 17 yX6_feed, Cond.instanceMethod yX6_feed, Cond.selects RX6 yX6_feed yX6_feed, Cond.code yX6_feed cX6_feed 6 (some .int), Cond.methodLink RX6 99 yX3_size, Cond.instanceMethod yX3_size, Cond.selects RX3 yX3_size yX3_size, Cond.code yX3_size cX3_size 1 (some .int), Cond.fieldLink RX3 13 "LampLine$Row" "size" "I", Cond.methodLink RX6 105 yX3_putNumber, Cond.instanceMethod yX3_putNumber, Cond.selects RX3 yX3_putNumber yX3_putNumber]
def wsL_law0_r8 : List Cond := [Cond.code yX3_putNumber cX3_putNumber 5 none, Cond.methodLink RL 84 yX7_feed, Cond.instanceMethod yX7_feed, Cond.selects RX7 yX7_feed yX7_feed, Cond.code yX7_feed cX7_feed 8 (some .int), Cond.fieldLink RX7 116 "LampLineModel" "taped" "I", Cond.methodLink RX7 119 yX7_goes, Cond.instanceMethod yX7_goes, Cond.selects RX7 yX7_goes yX7_goes, Cond.code yX7_goes cX7_goes 2 (some .boolean), Cond.methodLink RL 85 yL_end, Cond.static yL_end, Cond.codeWith yL_end cL_end 3 (some .int) [(0, 5, 8, 13)], Cond.methodLink RL 21 yX6_end, Cond.instanceMethod yX6_end, Cond.selects RX6 yX6_end yX6_end, Cond.code yX6_end cX6_end 2 none, Cond.methodLink RX6 111 yX3_cut, Cond.instanceMethod yX3_cut, Cond.selects RX3 yX3_cut yX3_cut, Cond.code yX3_cut cX3_cut 2 none, Cond.methodLink RL 88 yX7_end, Cond.instanceMethod yX7_end, Cond.selects RX7 yX7_end yX7_end]
def wsL_law0_r9 : List Cond := [Cond.code yX7_end cX7_end 2 none, Cond.methodLink RL 89 yX6_send, Cond.instanceMethod yX6_send, Cond.selects RX6 yX6_send yX6_send, Cond.code yX6_send cX6_send 1 (some .int), Cond.methodLink RX6 114 yX3_copyFrom, Cond.instanceMethod yX3_copyFrom, Cond.selects RX3 yX3_copyFrom yX3_copyFrom, Cond.code yX3_copyFrom cX3_copyFrom 3 none, Cond.methodLink RX6 118 yX6_runFrame, Cond.instanceMethod yX6_runFrame, Cond.selects RX6 yX6_runFrame yX6_runFrame, Cond.code yX6_runFrame cX6_runFrame 5 none, Cond.fieldLink RX6 160 "LampLine" "frameCount" "I", Cond.methodLink RX6 126 yX3_at, Cond.instanceMethod yX3_at, Cond.selects RX3 yX3_at yX3_at, Cond.code yX3_at cX3_at 2 (some .int), Cond.methodLink RX6 246 yX2_readFrom, Cond.instanceMethod yX2_readFrom, Cond.selects RX2 yX2_readFrom yX2_readFrom, Cond.code yX2_readFrom cX2_readFrom 4 (some .boolean), Cond.fieldLink RX2 20 "LampLine$Packet" "to" "J", Cond.fieldLink RX2 46 "LampLine$Packet" "from" "J"]
def wsL_law0_r10 : List Cond := [Cond.fieldLink RX2 49 "LampLine$Packet" "count" "I", Cond.fieldLink RX2 53 "LampLine$Packet" "kind" "I", Cond.fieldLink RX2 56 "LampLine$Packet" "messages" "I", Cond.fieldLink RX2 59 "LampLine$Packet" "part" "I", Cond.fieldLink RX2 62 "LampLine$Packet" "group" "I", Cond.fieldLink RX2 65 "LampLine$Packet" "matter" "I", Cond.methodLink RX2 30 yX3_at, Cond.methodLink RX2 34 yX3_size, Cond.methodLink RX2 38 yX3_sum, Cond.instanceMethod yX3_sum, Cond.selects RX3 yX3_sum yX3_sum, Cond.code yX3_sum cX3_sum 5 (some .int), Cond.constant RX3 21 (65535), Cond.methodLink RX2 42 yX3_number, Cond.instanceMethod yX3_number, Cond.selects RX3 yX3_number yX3_number, Cond.code yX3_number cX3_number 6 (some .long), Cond.methodLink RX3 17 yX3_at, Cond.methodLink RX2 68 yX3_cut, Cond.methodLink RX2 71 yX3_put, Cond.instanceMethod yX3_put, Cond.selects RX3 yX3_put yX3_put, Cond.code yX3_put cX3_put 2 none, Cond.methodLink RX6 250 yX1_ripen]
def wsL_law0_r11 : List Cond := [Cond.instanceMethod yX1_ripen, Cond.selects RX1 yX1_ripen yX1_ripen, Cond.code yX1_ripen cX1_ripen 3 none, Cond.fieldLink RX1 88 "LampLine$Lamp" "onTheWay" "I", Cond.fieldLink RX1 75 "LampLine$Lamp" "waiting" "I", Cond.methodLink RX1 84 yX3_copyFrom, Cond.methodLink RX6 253 yX1_shine, Cond.instanceMethod yX1_shine, Cond.selects RX1 yX1_shine yX1_shine, Cond.code yX1_shine cX1_shine 5 none, Cond.fieldLink RX1 49 "LampLine$Lamp" "litAt" "I", Cond.methodLink RX1 91 Lib.Math.min.name, Cond.static Lib.Math.min.name, Cond.initialized "java/lang/Math", Cond.code Lib.Math.min.name Lib.Math.min.code 2 (some .int), Cond.methodLink RX1 78 yX3_size, Cond.methodLink RX1 56 yX1_footprint, Cond.instanceMethod yX1_footprint, Cond.selects RX1 yX1_footprint yX1_footprint, Cond.code yX1_footprint cX1_footprint 1 (some .int), Cond.methodLink RX1 97 yX3_at, Cond.methodLink RX6 260 yX1_isMeantBy, Cond.instanceMethod yX1_isMeantBy, Cond.selects RX1 yX1_isMeantBy yX1_isMeantBy]
def wsL_law0_r12 : List Cond := [Cond.code yX1_isMeantBy cX1_isMeantBy 3 (some .boolean), Cond.constantLong RX1 105 (4294967295), Cond.constant RX1 107 (65535), Cond.static yX6_restOf, Cond.code yX6_restOf cX6_restOf 2 (some .long), Cond.static yX6_makerOf, Cond.code yX6_makerOf cX6_makerOf 2 (some .int), Cond.methodLink RX6 263 yX1_speaksTo, Cond.instanceMethod yX1_speaksTo, Cond.selects RX1 yX1_speaksTo yX1_speaksTo, Cond.code yX1_speaksTo cX1_speaksTo 5 (some .boolean), Cond.methodLink RX1 113 yX1_speaksToSearch, Cond.instanceMethod yX1_speaksToSearch, Cond.selects RX1 yX1_speaksToSearch yX1_speaksToSearch, Cond.code yX1_speaksToSearch cX1_speaksToSearch 5 (some .boolean), Cond.fieldLink RX1 60 "LampLine$Lamp" "silent" "Z", Cond.methodLink RX1 131 yX3_number, Cond.methodLink RX1 135 yX0_write, Cond.static yX0_write, Cond.initialized RX0, Cond.code yX0_write cX0_write 5 none, Cond.methodLink RX0 9 yX3_cut, Cond.methodLink RX0 17 yX3_put, Cond.methodLink RX0 20 yX3_sum]
def wsL_law0_r13 : List Cond := [Cond.methodLink RX1 117 yX2_isCall, Cond.instanceMethod yX2_isCall, Cond.selects RX2 yX2_isCall yX2_isCall, Cond.code yX2_isCall cX2_isCall 1 (some .boolean), Cond.constantLong RX2 28 (4294967295), Cond.methodLink RX1 141 yX2_beginReply, Cond.instanceMethod yX2_beginReply, Cond.selects RX2 yX2_beginReply yX2_beginReply, Cond.code yX2_beginReply cX2_beginReply 4 none, Cond.methodLink RX1 145 yX3_putNumber, Cond.methodLink RX1 152 yX2_writeTo, Cond.instanceMethod yX2_writeTo, Cond.selects RX2 yX2_writeTo yX2_writeTo, Cond.code yX2_writeTo cX2_writeTo 4 none, Cond.methodLink RX2 74 yX3_putNumber, Cond.methodLink RX1 121 yX1_speaksToOrder, Cond.instanceMethod yX1_speaksToOrder, Cond.selects RX1 yX1_speaksToOrder yX1_speaksToOrder, Cond.code yX1_speaksToOrder cX1_speaksToOrder 8 (some .boolean), Cond.fieldLink RX1 81 "LampLine$Lamp" "orders" "I", Cond.methodLink RX1 158 yX1_formRefusal, Cond.static yX1_formRefusal, Cond.code yX1_formRefusal cX1_formRefusal 4 (some .int), Cond.methodLink RX1 177 yX1_isKnown]
def wsL_law0_r14 : List Cond := [Cond.static yX1_isKnown, Cond.code yX1_isKnown cX1_isKnown 2 (some .boolean), Cond.fieldLink RX1 180 "LampLine$Lamp" "MATTERS" "[I", Cond.methodLink RX1 162 yX1_valueRefusal, Cond.instanceMethod yX1_valueRefusal, Cond.selects RX1 yX1_valueRefusal yX1_valueRefusal, Cond.code yX1_valueRefusal cX1_valueRefusal 6 (some .int), Cond.methodLink RX1 166 yX2_refuse, Cond.instanceMethod yX2_refuse, Cond.selects RX2 yX2_refuse yX2_refuse, Cond.code yX2_refuse cX2_refuse 2 none, Cond.methodLink RX1 169 yX1_obey, Cond.instanceMethod yX1_obey, Cond.selects RX1 yX1_obey yX1_obey, Cond.code yX1_obey cX1_obey 7 none, Cond.constantLong RX1 190 (3), Cond.fieldLink RX1 68 "LampLine$Lamp" "shows" "Z", Cond.methodLink RX1 173 yX1_tell, Cond.instanceMethod yX1_tell, Cond.selects RX1 yX1_tell yX1_tell, Cond.code yX1_tell cX1_tell 6 none, Cond.methodLink RX1 192 yX3_put, Cond.static yX6_flag, Cond.code yX6_flag cX6_flag 1 (some .int)]
def wsL_law0_r15 : List Cond := [Cond.methodLink RX6 267 yX3_join, Cond.instanceMethod yX3_join, Cond.selects RX3 yX3_join yX3_join, Cond.code yX3_join cX3_join 3 none, Cond.methodLink RX6 270 yX5_applyTo, Cond.instanceMethod yX5_applyTo, Cond.selects RX5 yX5_applyTo yX5_applyTo, Cond.code yX5_applyTo cX5_applyTo 3 none, Cond.fieldLink RX5 16 "LampLine$Spoils" "size" "I", Cond.methodLink RX5 23 yX3_flip, Cond.instanceMethod yX3_flip, Cond.selects RX3 yX3_flip yX3_flip, Cond.code yX3_flip cX3_flip 3 none, Cond.methodLink RL 92 yX7_send, Cond.instanceMethod yX7_send, Cond.selects RX7 yX7_send yX7_send, Cond.code yX7_send cX7_send 2 (some .int), Cond.fieldLink RX7 138 "LampLineModel" "frameSize" "I", Cond.fieldLink RX7 135 "LampLineModel" "answered" "I", Cond.methodLink RX7 239 yX7_look, Cond.instanceMethod yX7_look, Cond.selects RX7 yX7_look yX7_look, Cond.code yX7_look cX7_look 6 none, Cond.fieldLink RX7 129 "LampLineModel" "frames" "I"]
def wsL_law0_r16 : List Cond := [Cond.constantLong RX7 156 (4294967295), Cond.constantLong RX7 158 (65535), Cond.fieldLink RX7 160 "LampLineModel" "replySize" "I", Cond.fieldLink RX7 170 "LampLineModel" "spoils" "I", Cond.methodLink RX7 132 yX7_doDue, Cond.instanceMethod yX7_doDue, Cond.selects RX7 yX7_doDue yX7_doDue, Cond.code yX7_doDue cX7_doDue 5 none, Cond.methodLink RX7 123 yX7_at, Cond.instanceMethod yX7_at, Cond.selects RX7 yX7_at yX7_at, Cond.code yX7_at cX7_at 2 (some .int), Cond.methodLink RX7 141 yX7_takeLevels, Cond.instanceMethod yX7_takeLevels, Cond.selects RX7 yX7_takeLevels yX7_takeLevels, Cond.code yX7_takeLevels cX7_takeLevels 3 none, Cond.methodLink RX7 173 yX7_footprint, Cond.instanceMethod yX7_footprint, Cond.selects RX7 yX7_footprint yX7_footprint, Cond.code yX7_footprint cX7_footprint 2 (some .int), Cond.methodLink RX7 145 yX7_isPacket, Cond.instanceMethod yX7_isPacket, Cond.selects RX7 yX7_isPacket yX7_isPacket, Cond.code yX7_isPacket cX7_isPacket 3 (some .boolean)]
def wsL_law0_r17 : List Cond := [Cond.constant RX7 176 (65536), Cond.methodLink RX7 177 yX7_two, Cond.instanceMethod yX7_two, Cond.selects RX7 yX7_two yX7_two, Cond.code yX7_two cX7_two 2 (some .int), Cond.methodLink RX7 149 yX7_six, Cond.instanceMethod yX7_six, Cond.selects RX7 yX7_six yX7_six, Cond.code yX7_six cX7_six 5 (some .long), Cond.constantLong RX7 127 (256), Cond.methodLink RX7 153 yX7_ownId, Cond.instanceMethod yX7_ownId, Cond.selects RX7 yX7_ownId yX7_ownId, Cond.code yX7_ownId cX7_ownId 2 (some .long), Cond.methodLink RX7 95 yX7_idOf, Cond.static yX7_idOf, Cond.code yX7_idOf cX7_idOf 3 (some .long), Cond.methodLink RX7 163 yX7_hear, Cond.instanceMethod yX7_hear, Cond.selects RX7 yX7_hear yX7_hear, Cond.code yX7_hear cX7_hear 3 none, Cond.methodLink RX7 193 yX7_hearSearch, Cond.instanceMethod yX7_hearSearch, Cond.selects RX7 yX7_hearSearch yX7_hearSearch]
def wsL_law0_r18 : List Cond := [Cond.code yX7_hearSearch cX7_hearSearch 7 none, Cond.methodLink RX7 202 yX7_show, Cond.instanceMethod yX7_show, Cond.selects RX7 yX7_show yX7_show, Cond.code yX7_show cX7_show 6 none, Cond.methodLink RX7 180 yX7_put, Cond.instanceMethod yX7_put, Cond.selects RX7 yX7_put yX7_put, Cond.code yX7_put cX7_put 2 none, Cond.methodLink RX7 205 yX7_begin, Cond.instanceMethod yX7_begin, Cond.selects RX7 yX7_begin yX7_begin, Cond.code yX7_begin cX7_begin 6 none, Cond.methodLink RX7 183 yX7_putId, Cond.instanceMethod yX7_putId, Cond.selects RX7 yX7_putId yX7_putId, Cond.code yX7_putId cX7_putId 4 none, Cond.methodLink RX7 187 yX7_putTwo, Cond.instanceMethod yX7_putTwo, Cond.selects RX7 yX7_putTwo yX7_putTwo, Cond.code yX7_putTwo cX7_putTwo 2 none, Cond.methodLink RX7 209 yX7_finish, Cond.instanceMethod yX7_finish, Cond.selects RX7 yX7_finish yX7_finish]
def wsL_law0_r19 : List Cond := [Cond.code yX7_finish cX7_finish 4 none, Cond.methodLink RX7 190 yX7_waiting, Cond.instanceMethod yX7_waiting, Cond.selects RX7 yX7_waiting yX7_waiting, Cond.code yX7_waiting cX7_waiting 4 (some .int), Cond.methodLink RX7 196 yX7_get, Cond.instanceMethod yX7_get, Cond.selects RX7 yX7_get yX7_get, Cond.code yX7_get cX7_get 3 none, Cond.methodLink RX7 212 yX7_refuse, Cond.instanceMethod yX7_refuse, Cond.selects RX7 yX7_refuse yX7_refuse, Cond.code yX7_refuse cX7_refuse 4 none, Cond.methodLink RX7 216 yX7_isMatter, Cond.static yX7_isMatter, Cond.code yX7_isMatter cX7_isMatter 1 (some .boolean), Cond.methodLink RX7 220 yX7_getWaiting, Cond.instanceMethod yX7_getWaiting, Cond.selects RX7 yX7_getWaiting yX7_getWaiting, Cond.code yX7_getWaiting cX7_getWaiting 6 none, Cond.methodLink RX7 223 yX7_tell, Cond.instanceMethod yX7_tell, Cond.selects RX7 yX7_tell yX7_tell, Cond.code yX7_tell cX7_tell 5 none]
def wsL_law0_r20 : List Cond := [Cond.methodLink RX7 199 yX7_set, Cond.instanceMethod yX7_set, Cond.selects RX7 yX7_set yX7_set, Cond.code yX7_set cX7_set 6 none, Cond.constant RX7 227 (65535), Cond.methodLink RX7 228 yX7_mayBe, Cond.instanceMethod yX7_mayBe, Cond.selects RX7 yX7_mayBe yX7_mayBe, Cond.code yX7_mayBe cX7_mayBe 6 (some .boolean), Cond.constantLong RX7 235 (32), Cond.constantLong RX7 237 (126), Cond.methodLink RX7 232 yX7_setLabel, Cond.instanceMethod yX7_setLabel, Cond.selects RX7 yX7_setLabel yX7_setLabel, Cond.code yX7_setLabel cX7_setLabel 6 none, Cond.methodLink RX7 167 yX7_fall, Cond.instanceMethod yX7_fall, Cond.selects RX7 yX7_fall yX7_fall, Cond.code yX7_fall cX7_fall 2 none, Cond.methodLink RL 93 yL_answer, Cond.static yL_answer, Cond.codeWith yL_answer cL_answer 4 (some .int) [(0, 9, 12, 29)], Cond.classLink RL 29 "java/lang/IndexOutOfBoundsException", Cond.methodLink RL 25 yX6_answer]
def wsL_law0_r21 : List Cond := [Cond.instanceMethod yX6_answer, Cond.selects RX6 yX6_answer yX6_answer, Cond.code yX6_answer cX6_answer 2 (some .int), Cond.classLink RX6 121 "java/lang/IndexOutOfBoundsException", Cond.initialized "java/lang/IndexOutOfBoundsException", Cond.methodLink RL 96 yX7_answer, Cond.instanceMethod yX7_answer, Cond.selects RX7 yX7_answer yX7_answer, Cond.code yX7_answer cX7_answer 2 (some .int), Cond.methodLink RL 97 yL_ask, Cond.static yL_ask, Cond.codeWith yL_ask cL_ask 9 (some .int) [(0, 17, 20, 13)], Cond.methodLink RL 31 yX6_ask, Cond.instanceMethod yX6_ask, Cond.selects RX6 yX6_ask yX6_ask, Cond.code yX6_ask cX6_ask 9 (some .int), Cond.constant RX6 130 (65535), Cond.methodLink RX6 135 yX6_beginQuestion, Cond.instanceMethod yX6_beginQuestion, Cond.selects RX6 yX6_beginQuestion yX6_beginQuestion, Cond.code yX6_beginQuestion cX6_beginQuestion 5 none, Cond.fieldLink RX6 273 "LampLine" "questionCount" "I", Cond.constantLong RX6 276 (140728898420737), Cond.methodLink RX6 145 yX2_writeTo]
def wsL_law0_r22 : List Cond := [Cond.methodLink RX6 148 yX6_isReplyFrom, Cond.instanceMethod yX6_isReplyFrom, Cond.selects RX6 yX6_isReplyFrom yX6_isReplyFrom, Cond.code yX6_isReplyFrom cX6_isReplyFrom 3 (some .boolean), Cond.methodLink RL 99 yX7_ask, Cond.instanceMethod yX7_ask, Cond.selects RX7 yX7_ask yX7_ask, Cond.code yX7_ask cX7_ask 8 (some .int), Cond.constantLong RX7 257 (255), Cond.methodLink RX7 259 yX7_beginPacket, Cond.instanceMethod yX7_beginPacket, Cond.selects RX7 yX7_beginPacket yX7_beginPacket, Cond.code yX7_beginPacket cX7_beginPacket 6 none, Cond.fieldLink RX7 245 "LampLineModel" "counted" "I", Cond.methodLink RX7 242 yX7_write, Cond.instanceMethod yX7_write, Cond.selects RX7 yX7_write yX7_write, Cond.code yX7_write cX7_write 2 none, Cond.methodLink RX7 248 yX7_writeSix, Cond.instanceMethod yX7_writeSix, Cond.selects RX7 yX7_writeSix yX7_writeSix, Cond.code yX7_writeSix cX7_writeSix 4 none, Cond.methodLink RX7 263 yX7_sendOff, Cond.instanceMethod yX7_sendOff]
def wsL_law0_r23 : List Cond := [Cond.selects RX7 yX7_sendOff yX7_sendOff, Cond.code yX7_sendOff cX7_sendOff 3 none, Cond.methodLink RX7 266 yX7_isReply, Cond.instanceMethod yX7_isReply, Cond.selects RX7 yX7_isReply yX7_isReply, Cond.code yX7_isReply cX7_isReply 5 (some .boolean), Cond.methodLink RX7 251 yX7_heard, Cond.instanceMethod yX7_heard, Cond.selects RX7 yX7_heard yX7_heard, Cond.code yX7_heard cX7_heard 2 (some .int), Cond.methodLink RX7 254 yX7_heardSix, Cond.instanceMethod yX7_heardSix, Cond.selects RX7 yX7_heardSix yX7_heardSix, Cond.code yX7_heardSix cX7_heardSix 5 (some .long), Cond.methodLink RL 100 yL_spoil, Cond.static yL_spoil, Cond.codeWith yL_spoil cL_spoil 4 (some .int) [(0, 6, 9, 13)], Cond.methodLink RL 34 yX6_spoil, Cond.instanceMethod yX6_spoil, Cond.selects RX6 yX6_spoil yX6_spoil, Cond.code yX6_spoil cX6_spoil 3 none, Cond.methodLink RX6 156 yX5_add, Cond.instanceMethod yX5_add, Cond.selects RX5 yX5_add yX5_add]
def wsL_law0_r24 : List Cond := [Cond.code yX5_add cX5_add 3 none, Cond.methodLink RX5 20 yX5_dropFirst, Cond.instanceMethod yX5_dropFirst, Cond.selects RX5 yX5_dropFirst yX5_dropFirst, Cond.code yX5_dropFirst cX5_dropFirst 2 none, Cond.methodLink RL 103 yX7_spoil, Cond.instanceMethod yX7_spoil, Cond.selects RX7 yX7_spoil yX7_spoil, Cond.code yX7_spoil cX7_spoil 4 none, Cond.constantLong RX7 270 (300), Cond.methodLink RL 104 yX6_frames, Cond.instanceMethod yX6_frames, Cond.selects RX6 yX6_frames yX6_frames, Cond.code yX6_frames cX6_frames 1 (some .int), Cond.methodLink RL 107 yX7_frames, Cond.instanceMethod yX7_frames, Cond.selects RX7 yX7_frames yX7_frames, Cond.code yX7_frames cX7_frames 1 (some .int), Cond.methodLink RL 108 yL_about, Cond.static yL_about, Cond.codeWith yL_about cL_about 5 (some .int) [(0, 10, 13, 29)], Cond.methodLink RL 38 yX6_about, Cond.instanceMethod yX6_about, Cond.selects RX6 yX6_about yX6_about]
def wsL_law0_r25 : List Cond := [Cond.code yX6_about cX6_about 4 (some .int), Cond.methodLink RX6 163 yX6_lampAt, Cond.instanceMethod yX6_lampAt, Cond.selects RX6 yX6_lampAt yX6_lampAt, Cond.code yX6_lampAt cX6_lampAt 2 (some (.object "LampLine$Lamp")), Cond.methodLink RX6 169 yX1_fact, Cond.instanceMethod yX1_fact, Cond.selects RX1 yX1_fact yX1_fact, Cond.code yX1_fact cX1_fact 3 (some .int), Cond.methodLink RX1 71 yX1_isDark, Cond.instanceMethod yX1_isDark, Cond.selects RX1 yX1_isDark yX1_isDark, Cond.code yX1_isDark cX1_isDark 2 (some .boolean), Cond.methodLink RL 111 yX7_about, Cond.instanceMethod yX7_about, Cond.selects RX7 yX7_about yX7_about, Cond.code yX7_about cX7_about 3 (some .int), Cond.constantLong RX7 275 (10), Cond.methodLink RX7 272 yX7_isLamp, Cond.instanceMethod yX7_isLamp, Cond.selects RX7 yX7_isLamp yX7_isLamp, Cond.code yX7_isLamp cX7_isLamp 2 (some .boolean), Cond.methodLink RL 112 yL_rest, Cond.static yL_rest]
def wsL_law0_r26 : List Cond := [Cond.codeWith yL_rest cL_rest 4 (some .int) [(0, 8, 11, 29)], Cond.methodLink RL 42 yX6_rest, Cond.instanceMethod yX6_rest, Cond.selects RX6 yX6_rest yX6_rest, Cond.code yX6_rest cX6_rest 2 (some .long), Cond.methodLink RX6 177 yX6_restOf, Cond.methodLink RL 114 yX7_rest, Cond.instanceMethod yX7_rest, Cond.selects RX7 yX7_rest yX7_rest, Cond.code yX7_rest cX7_rest 2 (some .long), Cond.methodLink RL 115 yL_level, Cond.static yL_level, Cond.codeWith yL_level cL_level 5 (some .int) [(0, 10, 13, 29)], Cond.methodLink RL 46 yX6_level, Cond.instanceMethod yX6_level, Cond.selects RX6 yX6_level yX6_level, Cond.code yX6_level cX6_level 4 (some .int), Cond.methodLink RX6 181 yX1_footprint, Cond.methodLink RX6 186 yX1_levelAt, Cond.instanceMethod yX1_levelAt, Cond.selects RX1 yX1_levelAt yX1_levelAt, Cond.code yX1_levelAt cX1_levelAt 2 (some .int), Cond.methodLink RL 117 yX7_level, Cond.instanceMethod yX7_level]
def wsL_law0_r27 : List Cond := [Cond.selects RX7 yX7_level yX7_level, Cond.code yX7_level cX7_level 3 (some .int), Cond.methodLink RL 118 yL_label, Cond.static yL_label, Cond.codeWith yL_label cL_label 5 (some .int) [(0, 10, 13, 29)], Cond.methodLink RL 49 yX6_label, Cond.instanceMethod yX6_label, Cond.selects RX6 yX6_label yX6_label, Cond.code yX6_label cX6_label 4 (some .int), Cond.methodLink RL 120 yX7_label, Cond.instanceMethod yX7_label, Cond.selects RX7 yX7_label yX7_label, Cond.code yX7_label cX7_label 3 (some .int), Cond.methodLink RL 121 yL_silence, Cond.static yL_silence, Cond.codeWith yL_silence cL_silence 5 (some .int) [(0, 10, 13, 29)], Cond.methodLink RL 52 yX6_silence, Cond.instanceMethod yX6_silence, Cond.selects RX6 yX6_silence yX6_silence, Cond.code yX6_silence cX6_silence 5 (some .int), Cond.methodLink RX6 198 yX6_flag, Cond.methodLink RL 124 yX7_silence, Cond.instanceMethod yX7_silence, Cond.selects RX7 yX7_silence yX7_silence]
def wsL_law0_r28 : List Cond := [Cond.code yX7_silence cX7_silence 4 (some .int), Cond.methodLink RL 125 yX6_search, Cond.instanceMethod yX6_search, Cond.selects RX6 yX6_search yX6_search, Cond.code yX6_search cX6_search 1 (some .int), Cond.constantLong RX6 205 (281474976710655), Cond.methodLink RX6 202 yX4_begin, Cond.instanceMethod yX4_begin, Cond.selects RX4 yX4_begin yX4_begin, Cond.code yX4_begin cX4_begin 1 none, Cond.fieldLink RX4 21 "LampLine$Search" "begun" "Z", Cond.fieldLink RX4 25 "LampLine$Search" "depth" "I", Cond.fieldLink RX4 29 "LampLine$Search" "foundCount" "I", Cond.fieldLink RX4 32 "LampLine$Search" "steps" "I", Cond.constantLong RX4 35 (281474976710654), Cond.methodLink RX4 37 yX4_pile, Cond.instanceMethod yX4_pile, Cond.selects RX4 yX4_pile yX4_pile, Cond.code yX4_pile cX4_pile 5 none, Cond.methodLink RX6 207 yX6_writeSearch, Cond.instanceMethod yX6_writeSearch, Cond.selects RX6 yX6_writeSearch yX6_writeSearch, Cond.code yX6_writeSearch cX6_writeSearch 4 none, Cond.methodLink RL 128 yX7_search]
def wsL_law0_r29 : List Cond := [Cond.instanceMethod yX7_search, Cond.selects RX7 yX7_search yX7_search, Cond.code yX7_search cX7_search 1 (some .int), Cond.fieldLink RX7 277 "LampLineModel" "searching" "Z", Cond.fieldLink RX7 281 "LampLineModel" "steps" "I", Cond.fieldLink RX7 284 "LampLineModel" "found" "I", Cond.fieldLink RX7 287 "LampLineModel" "branches" "I", Cond.constantLong RX7 290 (281474976710654), Cond.constantLong RX7 292 (281474976710655), Cond.methodLink RL 129 yL_step, Cond.static yL_step, Cond.codeWith yL_step cL_step 4 (some .int) [(0, 9, 12, 15), (0, 9, 15, 13)], Cond.methodLink RL 56 yX6_step, Cond.instanceMethod yX6_step, Cond.selects RX6 yX6_step yX6_step, Cond.code yX6_step cX6_step 3 (some .int), Cond.methodLink RX6 220 yX6_takeStep, Cond.instanceMethod yX6_takeStep, Cond.selects RX6 yX6_takeStep yX6_takeStep, Cond.code yX6_takeStep cX6_takeStep 10 none, Cond.methodLink RX6 237 yX4_latestLow, Cond.instanceMethod yX4_latestLow, Cond.selects RX4 yX4_latestLow yX4_latestLow, Cond.code yX4_latestLow cX4_latestLow 1 (some .long)]
def wsL_law0_r30 : List Cond := [Cond.constantLong RX4 41 (-1), Cond.methodLink RX6 241 yX4_latestHigh, Cond.instanceMethod yX4_latestHigh, Cond.selects RX4 yX4_latestHigh yX4_latestHigh, Cond.code yX4_latestHigh cX4_latestHigh 1 (some .long), Cond.methodLink RX6 293 yX4_takeLatest, Cond.instanceMethod yX4_takeLatest, Cond.selects RX4 yX4_takeLatest yX4_takeLatest, Cond.code yX4_takeLatest cX4_takeLatest 1 none, Cond.methodLink RX6 296 yX6_tryId, Cond.instanceMethod yX6_tryId, Cond.selects RX6 yX6_tryId yX6_tryId, Cond.code yX6_tryId cX6_tryId 3 (some .int), Cond.methodLink RX6 316 yX4_keepFound, Cond.instanceMethod yX4_keepFound, Cond.selects RX4 yX4_keepFound yX4_keepFound, Cond.code yX4_keepFound cX4_keepFound 3 none, Cond.methodLink RX4 43 yX4_hasFound, Cond.instanceMethod yX4_hasFound, Cond.selects RX4 yX4_hasFound yX4_hasFound, Cond.code yX4_hasFound cX4_hasFound 4 (some .boolean), Cond.methodLink RX6 300 yX4_pile, Cond.methodLink RX6 304 yX6_writeBranchSearch, Cond.instanceMethod yX6_writeBranchSearch]
def wsL_law0_r31 : List Cond := [Cond.selects RX6 yX6_writeBranchSearch yX6_writeBranchSearch, Cond.code yX6_writeBranchSearch cX6_writeBranchSearch 5 none, Cond.methodLink RX6 307 yX0_read, Cond.static yX0_read, Cond.code yX0_read cX0_read 6 (some .long), Cond.constantLong RX0 28 (-1), Cond.constantLong RX0 34 (65535), Cond.methodLink RX0 24 yX3_size, Cond.methodLink RX0 30 yX3_at, Cond.methodLink RX6 313 yX4_hasFound, Cond.methodLink RL 131 yX7_step, Cond.instanceMethod yX7_step, Cond.selects RX7 yX7_step yX7_step, Cond.code yX7_step cX7_step 3 (some .int), Cond.constantLong RX7 316 (1000), Cond.methodLink RX7 318 yX7_stepOnce, Cond.instanceMethod yX7_stepOnce, Cond.selects RX7 yX7_stepOnce yX7_stepOnce, Cond.code yX7_stepOnce cX7_stepOnce 9 none, Cond.constantLong RX7 314 (2), Cond.methodLink RX7 299 yX7_isId, Cond.static yX7_isId, Cond.code yX7_isId cX7_isId 2 (some .boolean), Cond.methodLink RX7 302 yX7_tried]
def wsL_law0_r32 : List Cond := [Cond.instanceMethod yX7_tried, Cond.selects RX7 yX7_tried yX7_tried, Cond.code yX7_tried cX7_tried 3 (some .int), Cond.methodLink RX7 294 yX7_isFound, Cond.instanceMethod yX7_isFound, Cond.selects RX7 yX7_isFound yX7_isFound, Cond.code yX7_isFound cX7_isFound 5 (some .boolean), Cond.methodLink RX7 306 yX7_push, Cond.instanceMethod yX7_push, Cond.selects RX7 yX7_push yX7_push, Cond.code yX7_push cX7_push 5 none, Cond.methodLink RX7 310 yX7_shown, Cond.instanceMethod yX7_shown, Cond.selects RX7 yX7_shown yX7_shown, Cond.code yX7_shown cX7_shown 8 (some .long), Cond.constantLong RX7 297 (-1), Cond.methodLink RL 132 yX6_found, Cond.instanceMethod yX6_found, Cond.selects RX6 yX6_found yX6_found, Cond.code yX6_found cX6_found 1 (some .int), Cond.methodLink RL 135 yX7_found, Cond.instanceMethod yX7_found, Cond.selects RX7 yX7_found yX7_found, Cond.code yX7_found cX7_found 1 (some .int)]
def wsL_law0_r33 : List Cond := [Cond.methodLink RL 136 yL_id, Cond.static yL_id, Cond.codeWith yL_id cL_id 4 (some .int) [(0, 8, 11, 29)], Cond.methodLink RL 59 yX6_id, Cond.instanceMethod yX6_id, Cond.selects RX6 yX6_id yX6_id, Cond.code yX6_id cX6_id 2 (some .long), Cond.methodLink RL 138 yX7_id, Cond.instanceMethod yX7_id, Cond.selects RX7 yX7_id yX7_id, Cond.code yX7_id cX7_id 2 (some .long), Cond.methodLink RL 139 yL_branch, Cond.static yL_branch, Cond.codeWith yL_branch cL_branch 4 (some .int) [(0, 8, 11, 29)], Cond.methodLink RL 62 yX6_branch, Cond.instanceMethod yX6_branch, Cond.selects RX6 yX6_branch yX6_branch, Cond.code yX6_branch cX6_branch 2 (some .long), Cond.methodLink RL 141 yX7_branch, Cond.instanceMethod yX7_branch, Cond.selects RX7 yX7_branch yX7_branch, Cond.code yX7_branch cX7_branch 2 (some .long)]
def wsL_law0 : List Cond := (wsL_law0_r1 ++ (wsL_law0_r2 ++ (wsL_law0_r3 ++ (wsL_law0_r4 ++ (wsL_law0_r5 ++ (wsL_law0_r6 ++ (wsL_law0_r7 ++ (wsL_law0_r8 ++ (wsL_law0_r9 ++ (wsL_law0_r10 ++ (wsL_law0_r11 ++ (wsL_law0_r12 ++ (wsL_law0_r13 ++ (wsL_law0_r14 ++ (wsL_law0_r15 ++ (wsL_law0_r16 ++ (wsL_law0_r17 ++ (wsL_law0_r18 ++ (wsL_law0_r19 ++ (wsL_law0_r20 ++ (wsL_law0_r21 ++ (wsL_law0_r22 ++ (wsL_law0_r23 ++ (wsL_law0_r24 ++ (wsL_law0_r25 ++ (wsL_law0_r26 ++ (wsL_law0_r27 ++ (wsL_law0_r28 ++ (wsL_law0_r29 ++ (wsL_law0_r30 ++ (wsL_law0_r31 ++ (wsL_law0_r32 ++ wsL_law0_r33)))))))))))))))))))))))))))))))) ++ wsX60 ++ wsX70 ++ wsX30 ++ wsX20 ++ wsX50 ++ wsX40 ++ wsX10 ++ ([] : List Cond)
def wsL_law : List Cond := wsL_law0 ++ (vx_atS RX6 66 "java/lang/IllegalArgumentException" ["java/lang/RuntimeException", "java/lang/Exception"]).filter goodWord ++ (vx_atS RX6 95 "java/lang/IllegalStateException" ["java/lang/RuntimeException", "java/lang/Exception"]).filter goodWord ++ (vx_atS RX6 125 "java/lang/IndexOutOfBoundsException" ["java/lang/RuntimeException", "java/lang/Exception"]).filter goodWord
abbrev vwCl : List vw_C := [(RX1, TX1, 15), (RX2, TX2, 9), (RX3, TX3, 2), (RX4, TX4, 7), (RX5, TX5, 3), (RX6, TX6, 13), (RX7, TX7, 39)]
end
section
theorem dX0_write_0 : decode cX0_write 0 = .ok (.aload_n 2, 1) := by decide +kernel
theorem dX0_write_1 : decode cX0_write 1 = .ok (.iconst 0, 1) := by decide +kernel
theorem dX0_write_2 : decode cX0_write 2 = .ok (.invokevirtual 9, 3) := by decide +kernel
theorem dX0_write_5 : decode cX0_write 5 = .ok (.iconst 0, 1) := by decide +kernel
theorem dX0_write_6 : decode cX0_write 6 = .ok (.istore_n 3, 1) := by decide +kernel
theorem dX0_write_7 : decode cX0_write 7 = .ok (.iload_n 3, 1) := by decide +kernel
theorem dX0_write_8 : decode cX0_write 8 = .ok (.bipush 7, 2) := by decide +kernel
theorem dX0_write_10 : decode cX0_write 10 = .ok (.if_icmp .ge 16, 3) := by decide +kernel
theorem dX0_write_13 : decode cX0_write 13 = .ok (.aload_n 2, 1) := by decide +kernel
theorem dX0_write_14 : decode cX0_write 14 = .ok (.sipush 254, 3) := by decide +kernel
theorem dX0_write_17 : decode cX0_write 17 = .ok (.invokevirtual 17, 3) := by decide +kernel
theorem dX0_write_20 : decode cX0_write 20 = .ok (.iinc 3 1, 3) := by decide +kernel
theorem dX0_write_23 : decode cX0_write 23 = .ok (.goto (-16), 3) := by decide +kernel
theorem dX0_write_26 : decode cX0_write 26 = .ok (.aload_n 2, 1) := by decide +kernel
theorem dX0_write_27 : decode cX0_write 27 = .ok (.sipush 170, 3) := by decide +kernel
theorem dX0_write_30 : decode cX0_write 30 = .ok (.invokevirtual 17, 3) := by decide +kernel
theorem dX0_write_33 : decode cX0_write 33 = .ok (.bipush 40, 2) := by decide +kernel
theorem dX0_write_35 : decode cX0_write 35 = .ok (.istore_n 3, 1) := by decide +kernel
theorem dX0_write_36 : decode cX0_write 36 = .ok (.iload_n 3, 1) := by decide +kernel
theorem dX0_write_37 : decode cX0_write 37 = .ok (.ifCond .lt 38, 3) := by decide +kernel
theorem dX0_write_40 : decode cX0_write 40 = .ok (.lload_n 0, 1) := by decide +kernel
theorem dX0_write_41 : decode cX0_write 41 = .ok (.iload_n 3, 1) := by decide +kernel
theorem dX0_write_42 : decode cX0_write 42 = .ok (.lushr, 1) := by decide +kernel
theorem dX0_write_43 : decode cX0_write 43 = .ok (.l2i, 1) := by decide +kernel
theorem dX0_write_44 : decode cX0_write 44 = .ok (.sipush 255, 3) := by decide +kernel
theorem dX0_write_47 : decode cX0_write 47 = .ok (.iand, 1) := by decide +kernel
theorem dX0_write_48 : decode cX0_write 48 = .ok (.istore 4, 2) := by decide +kernel
theorem dX0_write_50 : decode cX0_write 50 = .ok (.aload_n 2, 1) := by decide +kernel
theorem dX0_write_51 : decode cX0_write 51 = .ok (.iload 4, 2) := by decide +kernel
theorem dX0_write_53 : decode cX0_write 53 = .ok (.sipush 170, 3) := by decide +kernel
theorem dX0_write_56 : decode cX0_write 56 = .ok (.ior, 1) := by decide +kernel
theorem dX0_write_57 : decode cX0_write 57 = .ok (.invokevirtual 17, 3) := by decide +kernel
theorem dX0_write_60 : decode cX0_write 60 = .ok (.aload_n 2, 1) := by decide +kernel
theorem dX0_write_61 : decode cX0_write 61 = .ok (.iload 4, 2) := by decide +kernel
theorem dX0_write_63 : decode cX0_write 63 = .ok (.bipush 85, 2) := by decide +kernel
theorem dX0_write_65 : decode cX0_write 65 = .ok (.ior, 1) := by decide +kernel
theorem dX0_write_66 : decode cX0_write 66 = .ok (.invokevirtual 17, 3) := by decide +kernel
theorem dX0_write_69 : decode cX0_write 69 = .ok (.iinc 3 (-8), 3) := by decide +kernel
theorem dX0_write_72 : decode cX0_write 72 = .ok (.goto (-36), 3) := by decide +kernel
theorem dX0_write_75 : decode cX0_write 75 = .ok (.aload_n 2, 1) := by decide +kernel
theorem dX0_write_76 : decode cX0_write 76 = .ok (.bipush 8, 2) := by decide +kernel
theorem dX0_write_78 : decode cX0_write 78 = .ok (.bipush 20, 2) := by decide +kernel
theorem dX0_write_80 : decode cX0_write 80 = .ok (.invokevirtual 20, 3) := by decide +kernel
theorem dX0_write_83 : decode cX0_write 83 = .ok (.istore_n 3, 1) := by decide +kernel
theorem dX0_write_84 : decode cX0_write 84 = .ok (.aload_n 2, 1) := by decide +kernel
theorem dX0_write_85 : decode cX0_write 85 = .ok (.iload_n 3, 1) := by decide +kernel
theorem dX0_write_86 : decode cX0_write 86 = .ok (.bipush 8, 2) := by decide +kernel
theorem dX0_write_88 : decode cX0_write 88 = .ok (.iushr, 1) := by decide +kernel
theorem dX0_write_89 : decode cX0_write 89 = .ok (.sipush 170, 3) := by decide +kernel
theorem dX0_write_92 : decode cX0_write 92 = .ok (.ior, 1) := by decide +kernel
theorem dX0_write_93 : decode cX0_write 93 = .ok (.invokevirtual 17, 3) := by decide +kernel
theorem dX0_write_96 : decode cX0_write 96 = .ok (.aload_n 2, 1) := by decide +kernel
theorem dX0_write_97 : decode cX0_write 97 = .ok (.iload_n 3, 1) := by decide +kernel
theorem dX0_write_98 : decode cX0_write 98 = .ok (.bipush 8, 2) := by decide +kernel
theorem dX0_write_100 : decode cX0_write 100 = .ok (.iushr, 1) := by decide +kernel
theorem dX0_write_101 : decode cX0_write 101 = .ok (.bipush 85, 2) := by decide +kernel
theorem dX0_write_103 : decode cX0_write 103 = .ok (.ior, 1) := by decide +kernel
theorem dX0_write_104 : decode cX0_write 104 = .ok (.invokevirtual 17, 3) := by decide +kernel
theorem dX0_write_107 : decode cX0_write 107 = .ok (.aload_n 2, 1) := by decide +kernel
theorem dX0_write_108 : decode cX0_write 108 = .ok (.iload_n 3, 1) := by decide +kernel
theorem dX0_write_109 : decode cX0_write 109 = .ok (.sipush 170, 3) := by decide +kernel
theorem dX0_write_112 : decode cX0_write 112 = .ok (.ior, 1) := by decide +kernel
theorem dX0_write_113 : decode cX0_write 113 = .ok (.invokevirtual 17, 3) := by decide +kernel
theorem dX0_write_116 : decode cX0_write 116 = .ok (.aload_n 2, 1) := by decide +kernel
theorem dX0_write_117 : decode cX0_write 117 = .ok (.iload_n 3, 1) := by decide +kernel
theorem dX0_write_118 : decode cX0_write 118 = .ok (.bipush 85, 2) := by decide +kernel
theorem dX0_write_120 : decode cX0_write 120 = .ok (.ior, 1) := by decide +kernel
theorem dX0_write_121 : decode cX0_write 121 = .ok (.invokevirtual 17, 3) := by decide +kernel
theorem dX0_write_124 : decode cX0_write 124 = .ok (.return_, 1) := by decide +kernel
theorem dX0_read_0 : decode cX0_read 0 = .ok (.aload_n 0, 1) := by decide +kernel
theorem dX0_read_1 : decode cX0_read 1 = .ok (.invokevirtual 24, 3) := by decide +kernel
theorem dX0_read_4 : decode cX0_read 4 = .ok (.bipush 24, 2) := by decide +kernel
theorem dX0_read_6 : decode cX0_read 6 = .ok (.if_icmp .eq 7, 3) := by decide +kernel
theorem dX0_read_9 : decode cX0_read 9 = .ok (.ldc2_w 28, 3) := by decide +kernel
theorem dX0_read_12 : decode cX0_read 12 = .ok (.lreturn, 1) := by decide +kernel
theorem dX0_read_13 : decode cX0_read 13 = .ok (.iconst 0, 1) := by decide +kernel
theorem dX0_read_14 : decode cX0_read 14 = .ok (.istore_n 1, 1) := by decide +kernel
theorem dX0_read_15 : decode cX0_read 15 = .ok (.iload_n 1, 1) := by decide +kernel
theorem dX0_read_16 : decode cX0_read 16 = .ok (.bipush 8, 2) := by decide +kernel
theorem dX0_read_18 : decode cX0_read 18 = .ok (.if_icmp .ge 36, 3) := by decide +kernel
theorem dX0_read_21 : decode cX0_read 21 = .ok (.aload_n 0, 1) := by decide +kernel
theorem dX0_read_22 : decode cX0_read 22 = .ok (.iload_n 1, 1) := by decide +kernel
theorem dX0_read_23 : decode cX0_read 23 = .ok (.invokevirtual 30, 3) := by decide +kernel
theorem dX0_read_26 : decode cX0_read 26 = .ok (.iload_n 1, 1) := by decide +kernel
theorem dX0_read_27 : decode cX0_read 27 = .ok (.bipush 7, 2) := by decide +kernel
theorem dX0_read_29 : decode cX0_read 29 = .ok (.if_icmp .ge 9, 3) := by decide +kernel
theorem dX0_read_32 : decode cX0_read 32 = .ok (.sipush 254, 3) := by decide +kernel
theorem dX0_read_35 : decode cX0_read 35 = .ok (.goto 6, 3) := by decide +kernel
theorem dX0_read_38 : decode cX0_read 38 = .ok (.sipush 170, 3) := by decide +kernel
theorem dX0_read_41 : decode cX0_read 41 = .ok (.if_icmp .eq 7, 3) := by decide +kernel
theorem dX0_read_44 : decode cX0_read 44 = .ok (.ldc2_w 28, 3) := by decide +kernel
theorem dX0_read_47 : decode cX0_read 47 = .ok (.lreturn, 1) := by decide +kernel
theorem dX0_read_48 : decode cX0_read 48 = .ok (.iinc 1 1, 3) := by decide +kernel
theorem dX0_read_51 : decode cX0_read 51 = .ok (.goto (-36), 3) := by decide +kernel
theorem dX0_read_54 : decode cX0_read 54 = .ok (.lconst 0, 1) := by decide +kernel
theorem dX0_read_55 : decode cX0_read 55 = .ok (.lstore_n 1, 1) := by decide +kernel
theorem dX0_read_56 : decode cX0_read 56 = .ok (.bipush 8, 2) := by decide +kernel
theorem dX0_read_58 : decode cX0_read 58 = .ok (.istore_n 3, 1) := by decide +kernel
theorem dX0_read_59 : decode cX0_read 59 = .ok (.iload_n 3, 1) := by decide +kernel
theorem dX0_read_60 : decode cX0_read 60 = .ok (.bipush 24, 2) := by decide +kernel
theorem dX0_read_62 : decode cX0_read 62 = .ok (.if_icmp .ge 63, 3) := by decide +kernel
theorem dX0_read_65 : decode cX0_read 65 = .ok (.aload_n 0, 1) := by decide +kernel
theorem dX0_read_66 : decode cX0_read 66 = .ok (.iload_n 3, 1) := by decide +kernel
theorem dX0_read_67 : decode cX0_read 67 = .ok (.invokevirtual 30, 3) := by decide +kernel
theorem dX0_read_70 : decode cX0_read 70 = .ok (.istore 4, 2) := by decide +kernel
theorem dX0_read_72 : decode cX0_read 72 = .ok (.aload_n 0, 1) := by decide +kernel
theorem dX0_read_73 : decode cX0_read 73 = .ok (.iload_n 3, 1) := by decide +kernel
theorem dX0_read_74 : decode cX0_read 74 = .ok (.iconst 1, 1) := by decide +kernel
theorem dX0_read_75 : decode cX0_read 75 = .ok (.iadd, 1) := by decide +kernel
theorem dX0_read_76 : decode cX0_read 76 = .ok (.invokevirtual 30, 3) := by decide +kernel
theorem dX0_read_79 : decode cX0_read 79 = .ok (.istore 5, 2) := by decide +kernel
theorem dX0_read_81 : decode cX0_read 81 = .ok (.iload 4, 2) := by decide +kernel
theorem dX0_read_83 : decode cX0_read 83 = .ok (.sipush 170, 3) := by decide +kernel
theorem dX0_read_86 : decode cX0_read 86 = .ok (.iand, 1) := by decide +kernel
theorem dX0_read_87 : decode cX0_read 87 = .ok (.sipush 170, 3) := by decide +kernel
theorem dX0_read_90 : decode cX0_read 90 = .ok (.if_icmp .ne 13, 3) := by decide +kernel
theorem dX0_read_93 : decode cX0_read 93 = .ok (.iload 5, 2) := by decide +kernel
theorem dX0_read_95 : decode cX0_read 95 = .ok (.bipush 85, 2) := by decide +kernel
theorem dX0_read_97 : decode cX0_read 97 = .ok (.iand, 1) := by decide +kernel
theorem dX0_read_98 : decode cX0_read 98 = .ok (.bipush 85, 2) := by decide +kernel
theorem dX0_read_100 : decode cX0_read 100 = .ok (.if_icmp .eq 7, 3) := by decide +kernel
theorem dX0_read_103 : decode cX0_read 103 = .ok (.ldc2_w 28, 3) := by decide +kernel
theorem dX0_read_106 : decode cX0_read 106 = .ok (.lreturn, 1) := by decide +kernel
theorem dX0_read_107 : decode cX0_read 107 = .ok (.lload_n 1, 1) := by decide +kernel
theorem dX0_read_108 : decode cX0_read 108 = .ok (.bipush 8, 2) := by decide +kernel
theorem dX0_read_110 : decode cX0_read 110 = .ok (.lshl, 1) := by decide +kernel
theorem dX0_read_111 : decode cX0_read 111 = .ok (.iload 4, 2) := by decide +kernel
theorem dX0_read_113 : decode cX0_read 113 = .ok (.iload 5, 2) := by decide +kernel
theorem dX0_read_115 : decode cX0_read 115 = .ok (.iand, 1) := by decide +kernel
theorem dX0_read_116 : decode cX0_read 116 = .ok (.i2l, 1) := by decide +kernel
theorem dX0_read_117 : decode cX0_read 117 = .ok (.lor, 1) := by decide +kernel
theorem dX0_read_118 : decode cX0_read 118 = .ok (.lstore_n 1, 1) := by decide +kernel
theorem dX0_read_119 : decode cX0_read 119 = .ok (.iinc 3 2, 3) := by decide +kernel
theorem dX0_read_122 : decode cX0_read 122 = .ok (.goto (-63), 3) := by decide +kernel
theorem dX0_read_125 : decode cX0_read 125 = .ok (.lload_n 1, 1) := by decide +kernel
theorem dX0_read_126 : decode cX0_read 126 = .ok (.ldc2_w 34, 3) := by decide +kernel
theorem dX0_read_129 : decode cX0_read 129 = .ok (.land, 1) := by decide +kernel
theorem dX0_read_130 : decode cX0_read 130 = .ok (.aload_n 0, 1) := by decide +kernel
theorem dX0_read_131 : decode cX0_read 131 = .ok (.bipush 8, 2) := by decide +kernel
theorem dX0_read_133 : decode cX0_read 133 = .ok (.bipush 20, 2) := by decide +kernel
theorem dX0_read_135 : decode cX0_read 135 = .ok (.invokevirtual 20, 3) := by decide +kernel
theorem dX0_read_138 : decode cX0_read 138 = .ok (.i2l, 1) := by decide +kernel
theorem dX0_read_139 : decode cX0_read 139 = .ok (.lcmp, 1) := by decide +kernel
theorem dX0_read_140 : decode cX0_read 140 = .ok (.ifCond .ne 10, 3) := by decide +kernel
theorem dX0_read_143 : decode cX0_read 143 = .ok (.lload_n 1, 1) := by decide +kernel
theorem dX0_read_144 : decode cX0_read 144 = .ok (.bipush 16, 2) := by decide +kernel
theorem dX0_read_146 : decode cX0_read 146 = .ok (.lushr, 1) := by decide +kernel
theorem dX0_read_147 : decode cX0_read 147 = .ok (.goto 6, 3) := by decide +kernel
theorem dX0_read_150 : decode cX0_read 150 = .ok (.ldc2_w 28, 3) := by decide +kernel
theorem dX0_read_153 : decode cX0_read 153 = .ok (.lreturn, 1) := by decide +kernel
set_option maxRecDepth 20000 in
theorem ggX0_write_X3_cut : GoodIn wsX0_write wsX3_cut := goodIn_r _ [5, 6, 17, 18] (by decide +kernel) (by decide +kernel)
set_option maxRecDepth 20000 in
theorem gX0_write_X3_cut : GoodIn wsX0_write (wsV RX0 9 RX3 yX3_cut wsX3_cut) := goodIn_app (goodIn_of _ (by decide +kernel)) ggX0_write_X3_cut
set_option maxRecDepth 20000 in
theorem ggX0_write_X3_put : GoodIn wsX0_write wsX3_put := goodIn_r _ [10, 6, 11, 17, 18] (by decide +kernel) (by decide +kernel)
set_option maxRecDepth 20000 in
theorem gX0_write_X3_put : GoodIn wsX0_write (wsV RX0 17 RX3 yX3_put wsX3_put) := goodIn_app (goodIn_of _ (by decide +kernel)) ggX0_write_X3_put
set_option maxRecDepth 20000 in
theorem ggX0_write_X3_sum : GoodIn wsX0_write wsX3_sum := goodIn_r _ [15, 6, 11, 16, 17, 18] (by decide +kernel) (by decide +kernel)
set_option maxRecDepth 20000 in
theorem gX0_write_X3_sum : GoodIn wsX0_write (wsV RX0 20 RX3 yX3_sum wsX3_sum) := goodIn_app (goodIn_of _ (by decide +kernel)) ggX0_write_X3_sum
set_option maxRecDepth 20000 in
theorem ggX0_read_X3_size : GoodIn wsX0_read wsX3_size := goodIn_r _ [7, 8, 19, 20] (by decide +kernel) (by decide +kernel)
set_option maxRecDepth 20000 in
theorem gX0_read_X3_size : GoodIn wsX0_read (wsV RX0 24 RX3 yX3_size wsX3_size) := goodIn_app (goodIn_of _ (by decide +kernel)) ggX0_read_X3_size
set_option maxRecDepth 20000 in
theorem ggX0_read_X3_at : GoodIn wsX0_read wsX3_at := goodIn_r _ [12, 8, 13, 19, 20] (by decide +kernel) (by decide +kernel)
set_option maxRecDepth 20000 in
theorem gX0_read_X3_at : GoodIn wsX0_read (wsV RX0 30 RX3 yX3_at wsX3_at) := goodIn_app (goodIn_of _ (by decide +kernel)) ggX0_read_X3_at
set_option maxRecDepth 20000 in
theorem ggX0_read_X3_sum : GoodIn wsX0_read wsX3_sum := goodIn_r _ [17, 8, 13, 18, 19, 20] (by decide +kernel) (by decide +kernel)
set_option maxRecDepth 20000 in
theorem gX0_read_X3_sum : GoodIn wsX0_read (wsV RX0 20 RX3 yX3_sum wsX3_sum) := goodIn_app (goodIn_of _ (by decide +kernel)) ggX0_read_X3_sum
theorem dX2_init_0 : decode cX2_init 0 = .ok (.aload_n 0, 1) := by decide +kernel
theorem dX2_init_1 : decode cX2_init 1 = .ok (.invokespecial 5, 3) := by decide +kernel
theorem dX2_init_4 : decode cX2_init 4 = .ok (.aload_n 0, 1) := by decide +kernel
theorem dX2_init_5 : decode cX2_init 5 = .ok (.new 11, 3) := by decide +kernel
theorem dX2_init_8 : decode cX2_init 8 = .ok (.dup, 1) := by decide +kernel
theorem dX2_init_9 : decode cX2_init 9 = .ok (.sipush 231, 3) := by decide +kernel
theorem dX2_init_12 : decode cX2_init 12 = .ok (.invokespecial 13, 3) := by decide +kernel
theorem dX2_init_15 : decode cX2_init 15 = .ok (.putfield 16, 3) := by decide +kernel
theorem dX2_init_18 : decode cX2_init 18 = .ok (.return_, 1) := by decide +kernel
theorem dX2_isCall_0 : decode cX2_isCall 0 = .ok (.aload_n 0, 1) := by decide +kernel
theorem dX2_isCall_1 : decode cX2_isCall 1 = .ok (.getfield 20, 3) := by decide +kernel
theorem dX2_isCall_4 : decode cX2_isCall 4 = .ok (.invokestatic 24, 3) := by decide +kernel
theorem dX2_isCall_7 : decode cX2_isCall 7 = .ok (.ldc2_w 28, 3) := by decide +kernel
theorem dX2_isCall_10 : decode cX2_isCall 10 = .ok (.lcmp, 1) := by decide +kernel
theorem dX2_isCall_11 : decode cX2_isCall 11 = .ok (.ifCond .ne 7, 3) := by decide +kernel
theorem dX2_isCall_14 : decode cX2_isCall 14 = .ok (.iconst 1, 1) := by decide +kernel
theorem dX2_isCall_15 : decode cX2_isCall 15 = .ok (.goto 4, 3) := by decide +kernel
theorem dX2_isCall_18 : decode cX2_isCall 18 = .ok (.iconst 0, 1) := by decide +kernel
theorem dX2_isCall_19 : decode cX2_isCall 19 = .ok (.ireturn, 1) := by decide +kernel
theorem dX2_readFrom_0 : decode cX2_readFrom 0 = .ok (.aload_n 1, 1) := by decide +kernel
theorem dX2_readFrom_1 : decode cX2_readFrom 1 = .ok (.iconst 2, 1) := by decide +kernel
theorem dX2_readFrom_2 : decode cX2_readFrom 2 = .ok (.invokevirtual 30, 3) := by decide +kernel
theorem dX2_readFrom_5 : decode cX2_readFrom 5 = .ok (.istore_n 2, 1) := by decide +kernel
theorem dX2_readFrom_6 : decode cX2_readFrom 6 = .ok (.iload_n 2, 1) := by decide +kernel
theorem dX2_readFrom_7 : decode cX2_readFrom 7 = .ok (.bipush 24, 2) := by decide +kernel
theorem dX2_readFrom_9 : decode cX2_readFrom 9 = .ok (.if_icmp .lt 13, 3) := by decide +kernel
theorem dX2_readFrom_12 : decode cX2_readFrom 12 = .ok (.aload_n 1, 1) := by decide +kernel
theorem dX2_readFrom_13 : decode cX2_readFrom 13 = .ok (.invokevirtual 34, 3) := by decide +kernel
theorem dX2_readFrom_16 : decode cX2_readFrom 16 = .ok (.iload_n 2, 1) := by decide +kernel
theorem dX2_readFrom_17 : decode cX2_readFrom 17 = .ok (.iconst 2, 1) := by decide +kernel
theorem dX2_readFrom_18 : decode cX2_readFrom 18 = .ok (.iadd, 1) := by decide +kernel
theorem dX2_readFrom_19 : decode cX2_readFrom 19 = .ok (.if_icmp .eq 5, 3) := by decide +kernel
theorem dX2_readFrom_22 : decode cX2_readFrom 22 = .ok (.iconst 0, 1) := by decide +kernel
theorem dX2_readFrom_23 : decode cX2_readFrom 23 = .ok (.ireturn, 1) := by decide +kernel
theorem dX2_readFrom_24 : decode cX2_readFrom 24 = .ok (.aload_n 1, 1) := by decide +kernel
theorem dX2_readFrom_25 : decode cX2_readFrom 25 = .ok (.iconst 0, 1) := by decide +kernel
theorem dX2_readFrom_26 : decode cX2_readFrom 26 = .ok (.invokevirtual 30, 3) := by decide +kernel
theorem dX2_readFrom_29 : decode cX2_readFrom 29 = .ok (.sipush 204, 3) := by decide +kernel
theorem dX2_readFrom_32 : decode cX2_readFrom 32 = .ok (.if_icmp .ne 25, 3) := by decide +kernel
theorem dX2_readFrom_35 : decode cX2_readFrom 35 = .ok (.aload_n 1, 1) := by decide +kernel
theorem dX2_readFrom_36 : decode cX2_readFrom 36 = .ok (.iconst 1, 1) := by decide +kernel
theorem dX2_readFrom_37 : decode cX2_readFrom 37 = .ok (.invokevirtual 30, 3) := by decide +kernel
theorem dX2_readFrom_40 : decode cX2_readFrom 40 = .ok (.iconst 1, 1) := by decide +kernel
theorem dX2_readFrom_41 : decode cX2_readFrom 41 = .ok (.if_icmp .ne 16, 3) := by decide +kernel
theorem dX2_readFrom_44 : decode cX2_readFrom 44 = .ok (.aload_n 1, 1) := by decide +kernel
theorem dX2_readFrom_45 : decode cX2_readFrom 45 = .ok (.bipush 23, 2) := by decide +kernel
theorem dX2_readFrom_47 : decode cX2_readFrom 47 = .ok (.invokevirtual 30, 3) := by decide +kernel
theorem dX2_readFrom_50 : decode cX2_readFrom 50 = .ok (.iload_n 2, 1) := by decide +kernel
theorem dX2_readFrom_51 : decode cX2_readFrom 51 = .ok (.bipush 24, 2) := by decide +kernel
theorem dX2_readFrom_53 : decode cX2_readFrom 53 = .ok (.isub, 1) := by decide +kernel
theorem dX2_readFrom_54 : decode cX2_readFrom 54 = .ok (.if_icmp .eq 5, 3) := by decide +kernel
theorem dX2_readFrom_57 : decode cX2_readFrom 57 = .ok (.iconst 0, 1) := by decide +kernel
theorem dX2_readFrom_58 : decode cX2_readFrom 58 = .ok (.ireturn, 1) := by decide +kernel
theorem dX2_readFrom_59 : decode cX2_readFrom 59 = .ok (.aload_n 1, 1) := by decide +kernel
theorem dX2_readFrom_60 : decode cX2_readFrom 60 = .ok (.iconst 0, 1) := by decide +kernel
theorem dX2_readFrom_61 : decode cX2_readFrom 61 = .ok (.iload_n 2, 1) := by decide +kernel
theorem dX2_readFrom_62 : decode cX2_readFrom 62 = .ok (.invokevirtual 38, 3) := by decide +kernel
theorem dX2_readFrom_65 : decode cX2_readFrom 65 = .ok (.i2l, 1) := by decide +kernel
theorem dX2_readFrom_66 : decode cX2_readFrom 66 = .ok (.aload_n 1, 1) := by decide +kernel
theorem dX2_readFrom_67 : decode cX2_readFrom 67 = .ok (.iload_n 2, 1) := by decide +kernel
theorem dX2_readFrom_68 : decode cX2_readFrom 68 = .ok (.iconst 2, 1) := by decide +kernel
theorem dX2_readFrom_69 : decode cX2_readFrom 69 = .ok (.invokevirtual 42, 3) := by decide +kernel
theorem dX2_readFrom_72 : decode cX2_readFrom 72 = .ok (.lcmp, 1) := by decide +kernel
theorem dX2_readFrom_73 : decode cX2_readFrom 73 = .ok (.ifCond .eq 5, 3) := by decide +kernel
theorem dX2_readFrom_76 : decode cX2_readFrom 76 = .ok (.iconst 0, 1) := by decide +kernel
theorem dX2_readFrom_77 : decode cX2_readFrom 77 = .ok (.ireturn, 1) := by decide +kernel
theorem dX2_readFrom_78 : decode cX2_readFrom 78 = .ok (.aload_n 0, 1) := by decide +kernel
theorem dX2_readFrom_79 : decode cX2_readFrom 79 = .ok (.aload_n 1, 1) := by decide +kernel
theorem dX2_readFrom_80 : decode cX2_readFrom 80 = .ok (.iconst 3, 1) := by decide +kernel
theorem dX2_readFrom_81 : decode cX2_readFrom 81 = .ok (.bipush 6, 2) := by decide +kernel
theorem dX2_readFrom_83 : decode cX2_readFrom 83 = .ok (.invokevirtual 42, 3) := by decide +kernel
theorem dX2_readFrom_86 : decode cX2_readFrom 86 = .ok (.putfield 20, 3) := by decide +kernel
theorem dX2_readFrom_89 : decode cX2_readFrom 89 = .ok (.aload_n 0, 1) := by decide +kernel
theorem dX2_readFrom_90 : decode cX2_readFrom 90 = .ok (.aload_n 1, 1) := by decide +kernel
theorem dX2_readFrom_91 : decode cX2_readFrom 91 = .ok (.bipush 9, 2) := by decide +kernel
theorem dX2_readFrom_93 : decode cX2_readFrom 93 = .ok (.bipush 6, 2) := by decide +kernel
theorem dX2_readFrom_95 : decode cX2_readFrom 95 = .ok (.invokevirtual 42, 3) := by decide +kernel
theorem dX2_readFrom_98 : decode cX2_readFrom 98 = .ok (.putfield 46, 3) := by decide +kernel
theorem dX2_readFrom_101 : decode cX2_readFrom 101 = .ok (.aload_n 0, 1) := by decide +kernel
theorem dX2_readFrom_102 : decode cX2_readFrom 102 = .ok (.aload_n 1, 1) := by decide +kernel
theorem dX2_readFrom_103 : decode cX2_readFrom 103 = .ok (.bipush 15, 2) := by decide +kernel
theorem dX2_readFrom_105 : decode cX2_readFrom 105 = .ok (.invokevirtual 30, 3) := by decide +kernel
theorem dX2_readFrom_108 : decode cX2_readFrom 108 = .ok (.putfield 49, 3) := by decide +kernel
theorem dX2_readFrom_111 : decode cX2_readFrom 111 = .ok (.aload_n 0, 1) := by decide +kernel
theorem dX2_readFrom_112 : decode cX2_readFrom 112 = .ok (.aload_n 1, 1) := by decide +kernel
theorem dX2_readFrom_113 : decode cX2_readFrom 113 = .ok (.bipush 16, 2) := by decide +kernel
theorem dX2_readFrom_115 : decode cX2_readFrom 115 = .ok (.invokevirtual 30, 3) := by decide +kernel
theorem dX2_readFrom_118 : decode cX2_readFrom 118 = .ok (.putfield 53, 3) := by decide +kernel
theorem dX2_readFrom_121 : decode cX2_readFrom 121 = .ok (.aload_n 0, 1) := by decide +kernel
theorem dX2_readFrom_122 : decode cX2_readFrom 122 = .ok (.aload_n 1, 1) := by decide +kernel
theorem dX2_readFrom_123 : decode cX2_readFrom 123 = .ok (.bipush 17, 2) := by decide +kernel
theorem dX2_readFrom_125 : decode cX2_readFrom 125 = .ok (.invokevirtual 30, 3) := by decide +kernel
theorem dX2_readFrom_128 : decode cX2_readFrom 128 = .ok (.putfield 56, 3) := by decide +kernel
theorem dX2_readFrom_131 : decode cX2_readFrom 131 = .ok (.aload_n 0, 1) := by decide +kernel
theorem dX2_readFrom_132 : decode cX2_readFrom 132 = .ok (.aload_n 1, 1) := by decide +kernel
theorem dX2_readFrom_133 : decode cX2_readFrom 133 = .ok (.bipush 18, 2) := by decide +kernel
theorem dX2_readFrom_135 : decode cX2_readFrom 135 = .ok (.iconst 2, 1) := by decide +kernel
theorem dX2_readFrom_136 : decode cX2_readFrom 136 = .ok (.invokevirtual 42, 3) := by decide +kernel
theorem dX2_readFrom_139 : decode cX2_readFrom 139 = .ok (.l2i, 1) := by decide +kernel
theorem dX2_readFrom_140 : decode cX2_readFrom 140 = .ok (.putfield 59, 3) := by decide +kernel
theorem dX2_readFrom_143 : decode cX2_readFrom 143 = .ok (.aload_n 0, 1) := by decide +kernel
theorem dX2_readFrom_144 : decode cX2_readFrom 144 = .ok (.aload_n 1, 1) := by decide +kernel
theorem dX2_readFrom_145 : decode cX2_readFrom 145 = .ok (.bipush 20, 2) := by decide +kernel
theorem dX2_readFrom_147 : decode cX2_readFrom 147 = .ok (.invokevirtual 30, 3) := by decide +kernel
theorem dX2_readFrom_150 : decode cX2_readFrom 150 = .ok (.putfield 62, 3) := by decide +kernel
theorem dX2_readFrom_153 : decode cX2_readFrom 153 = .ok (.aload_n 0, 1) := by decide +kernel
theorem dX2_readFrom_154 : decode cX2_readFrom 154 = .ok (.aload_n 1, 1) := by decide +kernel
theorem dX2_readFrom_155 : decode cX2_readFrom 155 = .ok (.bipush 21, 2) := by decide +kernel
theorem dX2_readFrom_157 : decode cX2_readFrom 157 = .ok (.iconst 2, 1) := by decide +kernel
theorem dX2_readFrom_158 : decode cX2_readFrom 158 = .ok (.invokevirtual 42, 3) := by decide +kernel
theorem dX2_readFrom_161 : decode cX2_readFrom 161 = .ok (.l2i, 1) := by decide +kernel
theorem dX2_readFrom_162 : decode cX2_readFrom 162 = .ok (.putfield 65, 3) := by decide +kernel
theorem dX2_readFrom_165 : decode cX2_readFrom 165 = .ok (.aload_n 0, 1) := by decide +kernel
theorem dX2_readFrom_166 : decode cX2_readFrom 166 = .ok (.getfield 16, 3) := by decide +kernel
theorem dX2_readFrom_169 : decode cX2_readFrom 169 = .ok (.iconst 0, 1) := by decide +kernel
theorem dX2_readFrom_170 : decode cX2_readFrom 170 = .ok (.invokevirtual 68, 3) := by decide +kernel
theorem dX2_readFrom_173 : decode cX2_readFrom 173 = .ok (.bipush 24, 2) := by decide +kernel
theorem dX2_readFrom_175 : decode cX2_readFrom 175 = .ok (.istore_n 3, 1) := by decide +kernel
theorem dX2_readFrom_176 : decode cX2_readFrom 176 = .ok (.iload_n 3, 1) := by decide +kernel
theorem dX2_readFrom_177 : decode cX2_readFrom 177 = .ok (.iload_n 2, 1) := by decide +kernel
theorem dX2_readFrom_178 : decode cX2_readFrom 178 = .ok (.if_icmp .ge 21, 3) := by decide +kernel
theorem dX2_readFrom_181 : decode cX2_readFrom 181 = .ok (.aload_n 0, 1) := by decide +kernel
theorem dX2_readFrom_182 : decode cX2_readFrom 182 = .ok (.getfield 16, 3) := by decide +kernel
theorem dX2_readFrom_185 : decode cX2_readFrom 185 = .ok (.aload_n 1, 1) := by decide +kernel
theorem dX2_readFrom_186 : decode cX2_readFrom 186 = .ok (.iload_n 3, 1) := by decide +kernel
theorem dX2_readFrom_187 : decode cX2_readFrom 187 = .ok (.invokevirtual 30, 3) := by decide +kernel
theorem dX2_readFrom_190 : decode cX2_readFrom 190 = .ok (.invokevirtual 71, 3) := by decide +kernel
theorem dX2_readFrom_193 : decode cX2_readFrom 193 = .ok (.iinc 3 1, 3) := by decide +kernel
theorem dX2_readFrom_196 : decode cX2_readFrom 196 = .ok (.goto (-20), 3) := by decide +kernel
theorem dX2_readFrom_199 : decode cX2_readFrom 199 = .ok (.iconst 1, 1) := by decide +kernel
theorem dX2_readFrom_200 : decode cX2_readFrom 200 = .ok (.ireturn, 1) := by decide +kernel
theorem dX2_writeTo_0 : decode cX2_writeTo 0 = .ok (.bipush 24, 2) := by decide +kernel
theorem dX2_writeTo_2 : decode cX2_writeTo 2 = .ok (.aload_n 0, 1) := by decide +kernel
theorem dX2_writeTo_3 : decode cX2_writeTo 3 = .ok (.getfield 16, 3) := by decide +kernel
theorem dX2_writeTo_6 : decode cX2_writeTo 6 = .ok (.invokevirtual 34, 3) := by decide +kernel
theorem dX2_writeTo_9 : decode cX2_writeTo 9 = .ok (.iadd, 1) := by decide +kernel
theorem dX2_writeTo_10 : decode cX2_writeTo 10 = .ok (.istore_n 2, 1) := by decide +kernel
theorem dX2_writeTo_11 : decode cX2_writeTo 11 = .ok (.aload_n 1, 1) := by decide +kernel
theorem dX2_writeTo_12 : decode cX2_writeTo 12 = .ok (.iconst 0, 1) := by decide +kernel
theorem dX2_writeTo_13 : decode cX2_writeTo 13 = .ok (.invokevirtual 68, 3) := by decide +kernel
theorem dX2_writeTo_16 : decode cX2_writeTo 16 = .ok (.aload_n 1, 1) := by decide +kernel
theorem dX2_writeTo_17 : decode cX2_writeTo 17 = .ok (.sipush 204, 3) := by decide +kernel
theorem dX2_writeTo_20 : decode cX2_writeTo 20 = .ok (.invokevirtual 71, 3) := by decide +kernel
theorem dX2_writeTo_23 : decode cX2_writeTo 23 = .ok (.aload_n 1, 1) := by decide +kernel
theorem dX2_writeTo_24 : decode cX2_writeTo 24 = .ok (.iconst 1, 1) := by decide +kernel
theorem dX2_writeTo_25 : decode cX2_writeTo 25 = .ok (.invokevirtual 71, 3) := by decide +kernel
theorem dX2_writeTo_28 : decode cX2_writeTo 28 = .ok (.aload_n 1, 1) := by decide +kernel
theorem dX2_writeTo_29 : decode cX2_writeTo 29 = .ok (.iload_n 2, 1) := by decide +kernel
theorem dX2_writeTo_30 : decode cX2_writeTo 30 = .ok (.invokevirtual 71, 3) := by decide +kernel
theorem dX2_writeTo_33 : decode cX2_writeTo 33 = .ok (.aload_n 1, 1) := by decide +kernel
theorem dX2_writeTo_34 : decode cX2_writeTo 34 = .ok (.aload_n 0, 1) := by decide +kernel
theorem dX2_writeTo_35 : decode cX2_writeTo 35 = .ok (.getfield 20, 3) := by decide +kernel
theorem dX2_writeTo_38 : decode cX2_writeTo 38 = .ok (.bipush 6, 2) := by decide +kernel
theorem dX2_writeTo_40 : decode cX2_writeTo 40 = .ok (.invokevirtual 74, 3) := by decide +kernel
theorem dX2_writeTo_43 : decode cX2_writeTo 43 = .ok (.aload_n 1, 1) := by decide +kernel
theorem dX2_writeTo_44 : decode cX2_writeTo 44 = .ok (.aload_n 0, 1) := by decide +kernel
theorem dX2_writeTo_45 : decode cX2_writeTo 45 = .ok (.getfield 46, 3) := by decide +kernel
theorem dX2_writeTo_48 : decode cX2_writeTo 48 = .ok (.bipush 6, 2) := by decide +kernel
theorem dX2_writeTo_50 : decode cX2_writeTo 50 = .ok (.invokevirtual 74, 3) := by decide +kernel
theorem dX2_writeTo_53 : decode cX2_writeTo 53 = .ok (.aload_n 1, 1) := by decide +kernel
theorem dX2_writeTo_54 : decode cX2_writeTo 54 = .ok (.aload_n 0, 1) := by decide +kernel
theorem dX2_writeTo_55 : decode cX2_writeTo 55 = .ok (.getfield 49, 3) := by decide +kernel
theorem dX2_writeTo_58 : decode cX2_writeTo 58 = .ok (.invokevirtual 71, 3) := by decide +kernel
theorem dX2_writeTo_61 : decode cX2_writeTo 61 = .ok (.aload_n 1, 1) := by decide +kernel
theorem dX2_writeTo_62 : decode cX2_writeTo 62 = .ok (.aload_n 0, 1) := by decide +kernel
theorem dX2_writeTo_63 : decode cX2_writeTo 63 = .ok (.getfield 53, 3) := by decide +kernel
theorem dX2_writeTo_66 : decode cX2_writeTo 66 = .ok (.invokevirtual 71, 3) := by decide +kernel
theorem dX2_writeTo_69 : decode cX2_writeTo 69 = .ok (.aload_n 1, 1) := by decide +kernel
theorem dX2_writeTo_70 : decode cX2_writeTo 70 = .ok (.aload_n 0, 1) := by decide +kernel
theorem dX2_writeTo_71 : decode cX2_writeTo 71 = .ok (.getfield 56, 3) := by decide +kernel
theorem dX2_writeTo_74 : decode cX2_writeTo 74 = .ok (.invokevirtual 71, 3) := by decide +kernel
theorem dX2_writeTo_77 : decode cX2_writeTo 77 = .ok (.aload_n 1, 1) := by decide +kernel
theorem dX2_writeTo_78 : decode cX2_writeTo 78 = .ok (.aload_n 0, 1) := by decide +kernel
theorem dX2_writeTo_79 : decode cX2_writeTo 79 = .ok (.getfield 59, 3) := by decide +kernel
theorem dX2_writeTo_82 : decode cX2_writeTo 82 = .ok (.i2l, 1) := by decide +kernel
theorem dX2_writeTo_83 : decode cX2_writeTo 83 = .ok (.iconst 2, 1) := by decide +kernel
theorem dX2_writeTo_84 : decode cX2_writeTo 84 = .ok (.invokevirtual 74, 3) := by decide +kernel
theorem dX2_writeTo_87 : decode cX2_writeTo 87 = .ok (.aload_n 1, 1) := by decide +kernel
theorem dX2_writeTo_88 : decode cX2_writeTo 88 = .ok (.aload_n 0, 1) := by decide +kernel
theorem dX2_writeTo_89 : decode cX2_writeTo 89 = .ok (.getfield 62, 3) := by decide +kernel
theorem dX2_writeTo_92 : decode cX2_writeTo 92 = .ok (.invokevirtual 71, 3) := by decide +kernel
theorem dX2_writeTo_95 : decode cX2_writeTo 95 = .ok (.aload_n 1, 1) := by decide +kernel
theorem dX2_writeTo_96 : decode cX2_writeTo 96 = .ok (.aload_n 0, 1) := by decide +kernel
theorem dX2_writeTo_97 : decode cX2_writeTo 97 = .ok (.getfield 65, 3) := by decide +kernel
theorem dX2_writeTo_100 : decode cX2_writeTo 100 = .ok (.i2l, 1) := by decide +kernel
theorem dX2_writeTo_101 : decode cX2_writeTo 101 = .ok (.iconst 2, 1) := by decide +kernel
theorem dX2_writeTo_102 : decode cX2_writeTo 102 = .ok (.invokevirtual 74, 3) := by decide +kernel
theorem dX2_writeTo_105 : decode cX2_writeTo 105 = .ok (.aload_n 1, 1) := by decide +kernel
theorem dX2_writeTo_106 : decode cX2_writeTo 106 = .ok (.aload_n 0, 1) := by decide +kernel
theorem dX2_writeTo_107 : decode cX2_writeTo 107 = .ok (.getfield 16, 3) := by decide +kernel
theorem dX2_writeTo_110 : decode cX2_writeTo 110 = .ok (.invokevirtual 34, 3) := by decide +kernel
theorem dX2_writeTo_113 : decode cX2_writeTo 113 = .ok (.invokevirtual 71, 3) := by decide +kernel
theorem dX2_writeTo_116 : decode cX2_writeTo 116 = .ok (.iconst 0, 1) := by decide +kernel
theorem dX2_writeTo_117 : decode cX2_writeTo 117 = .ok (.istore_n 3, 1) := by decide +kernel
theorem dX2_writeTo_118 : decode cX2_writeTo 118 = .ok (.iload_n 3, 1) := by decide +kernel
theorem dX2_writeTo_119 : decode cX2_writeTo 119 = .ok (.aload_n 0, 1) := by decide +kernel
theorem dX2_writeTo_120 : decode cX2_writeTo 120 = .ok (.getfield 16, 3) := by decide +kernel
theorem dX2_writeTo_123 : decode cX2_writeTo 123 = .ok (.invokevirtual 34, 3) := by decide +kernel
theorem dX2_writeTo_126 : decode cX2_writeTo 126 = .ok (.if_icmp .ge 21, 3) := by decide +kernel
theorem dX2_writeTo_129 : decode cX2_writeTo 129 = .ok (.aload_n 1, 1) := by decide +kernel
theorem dX2_writeTo_130 : decode cX2_writeTo 130 = .ok (.aload_n 0, 1) := by decide +kernel
theorem dX2_writeTo_131 : decode cX2_writeTo 131 = .ok (.getfield 16, 3) := by decide +kernel
theorem dX2_writeTo_134 : decode cX2_writeTo 134 = .ok (.iload_n 3, 1) := by decide +kernel
theorem dX2_writeTo_135 : decode cX2_writeTo 135 = .ok (.invokevirtual 30, 3) := by decide +kernel
theorem dX2_writeTo_138 : decode cX2_writeTo 138 = .ok (.invokevirtual 71, 3) := by decide +kernel
theorem dX2_writeTo_141 : decode cX2_writeTo 141 = .ok (.iinc 3 1, 3) := by decide +kernel
theorem dX2_writeTo_144 : decode cX2_writeTo 144 = .ok (.goto (-26), 3) := by decide +kernel
theorem dX2_writeTo_147 : decode cX2_writeTo 147 = .ok (.aload_n 1, 1) := by decide +kernel
theorem dX2_writeTo_148 : decode cX2_writeTo 148 = .ok (.aload_n 1, 1) := by decide +kernel
theorem dX2_writeTo_149 : decode cX2_writeTo 149 = .ok (.iconst 0, 1) := by decide +kernel
theorem dX2_writeTo_150 : decode cX2_writeTo 150 = .ok (.iload_n 2, 1) := by decide +kernel
theorem dX2_writeTo_151 : decode cX2_writeTo 151 = .ok (.invokevirtual 38, 3) := by decide +kernel
theorem dX2_writeTo_154 : decode cX2_writeTo 154 = .ok (.i2l, 1) := by decide +kernel
theorem dX2_writeTo_155 : decode cX2_writeTo 155 = .ok (.iconst 2, 1) := by decide +kernel
theorem dX2_writeTo_156 : decode cX2_writeTo 156 = .ok (.invokevirtual 74, 3) := by decide +kernel
theorem dX2_writeTo_159 : decode cX2_writeTo 159 = .ok (.return_, 1) := by decide +kernel
theorem dX2_beginReply_0 : decode cX2_beginReply 0 = .ok (.aload_n 0, 1) := by decide +kernel
theorem dX2_beginReply_1 : decode cX2_beginReply 1 = .ok (.aload_n 1, 1) := by decide +kernel
theorem dX2_beginReply_2 : decode cX2_beginReply 2 = .ok (.getfield 46, 3) := by decide +kernel
theorem dX2_beginReply_5 : decode cX2_beginReply 5 = .ok (.putfield 20, 3) := by decide +kernel
theorem dX2_beginReply_8 : decode cX2_beginReply 8 = .ok (.aload_n 0, 1) := by decide +kernel
theorem dX2_beginReply_9 : decode cX2_beginReply 9 = .ok (.lload_n 2, 1) := by decide +kernel
theorem dX2_beginReply_10 : decode cX2_beginReply 10 = .ok (.putfield 46, 3) := by decide +kernel
theorem dX2_beginReply_13 : decode cX2_beginReply 13 = .ok (.aload_n 0, 1) := by decide +kernel
theorem dX2_beginReply_14 : decode cX2_beginReply 14 = .ok (.aload_n 1, 1) := by decide +kernel
theorem dX2_beginReply_15 : decode cX2_beginReply 15 = .ok (.getfield 49, 3) := by decide +kernel
theorem dX2_beginReply_18 : decode cX2_beginReply 18 = .ok (.putfield 49, 3) := by decide +kernel
theorem dX2_beginReply_21 : decode cX2_beginReply 21 = .ok (.aload_n 0, 1) := by decide +kernel
theorem dX2_beginReply_22 : decode cX2_beginReply 22 = .ok (.iconst 0, 1) := by decide +kernel
theorem dX2_beginReply_23 : decode cX2_beginReply 23 = .ok (.putfield 53, 3) := by decide +kernel
theorem dX2_beginReply_26 : decode cX2_beginReply 26 = .ok (.aload_n 0, 1) := by decide +kernel
theorem dX2_beginReply_27 : decode cX2_beginReply 27 = .ok (.aload_n 1, 1) := by decide +kernel
theorem dX2_beginReply_28 : decode cX2_beginReply 28 = .ok (.getfield 59, 3) := by decide +kernel
theorem dX2_beginReply_31 : decode cX2_beginReply 31 = .ok (.putfield 59, 3) := by decide +kernel
theorem dX2_beginReply_34 : decode cX2_beginReply 34 = .ok (.aload_n 0, 1) := by decide +kernel
theorem dX2_beginReply_35 : decode cX2_beginReply 35 = .ok (.aload_n 1, 1) := by decide +kernel
theorem dX2_beginReply_36 : decode cX2_beginReply 36 = .ok (.getfield 62, 3) := by decide +kernel
theorem dX2_beginReply_39 : decode cX2_beginReply 39 = .ok (.iconst 1, 1) := by decide +kernel
theorem dX2_beginReply_40 : decode cX2_beginReply 40 = .ok (.iadd, 1) := by decide +kernel
theorem dX2_beginReply_41 : decode cX2_beginReply 41 = .ok (.putfield 62, 3) := by decide +kernel
theorem dX2_beginReply_44 : decode cX2_beginReply 44 = .ok (.aload_n 0, 1) := by decide +kernel
theorem dX2_beginReply_45 : decode cX2_beginReply 45 = .ok (.aload_n 1, 1) := by decide +kernel
theorem dX2_beginReply_46 : decode cX2_beginReply 46 = .ok (.getfield 65, 3) := by decide +kernel
theorem dX2_beginReply_49 : decode cX2_beginReply 49 = .ok (.putfield 65, 3) := by decide +kernel
theorem dX2_beginReply_52 : decode cX2_beginReply 52 = .ok (.aload_n 0, 1) := by decide +kernel
theorem dX2_beginReply_53 : decode cX2_beginReply 53 = .ok (.getfield 16, 3) := by decide +kernel
theorem dX2_beginReply_56 : decode cX2_beginReply 56 = .ok (.iconst 0, 1) := by decide +kernel
theorem dX2_beginReply_57 : decode cX2_beginReply 57 = .ok (.invokevirtual 68, 3) := by decide +kernel
theorem dX2_beginReply_60 : decode cX2_beginReply 60 = .ok (.return_, 1) := by decide +kernel
theorem dX2_refuse_0 : decode cX2_refuse 0 = .ok (.aload_n 0, 1) := by decide +kernel
theorem dX2_refuse_1 : decode cX2_refuse 1 = .ok (.iconst 2, 1) := by decide +kernel
theorem dX2_refuse_2 : decode cX2_refuse 2 = .ok (.putfield 53, 3) := by decide +kernel
theorem dX2_refuse_5 : decode cX2_refuse 5 = .ok (.aload_n 0, 1) := by decide +kernel
theorem dX2_refuse_6 : decode cX2_refuse 6 = .ok (.getfield 16, 3) := by decide +kernel
theorem dX2_refuse_9 : decode cX2_refuse 9 = .ok (.iload_n 1, 1) := by decide +kernel
theorem dX2_refuse_10 : decode cX2_refuse 10 = .ok (.i2l, 1) := by decide +kernel
theorem dX2_refuse_11 : decode cX2_refuse 11 = .ok (.iconst 2, 1) := by decide +kernel
theorem dX2_refuse_12 : decode cX2_refuse 12 = .ok (.invokevirtual 74, 3) := by decide +kernel
theorem dX2_refuse_15 : decode cX2_refuse 15 = .ok (.return_, 1) := by decide +kernel
set_option maxRecDepth 20000 in
theorem ggX2_init_X3_init : GoodIn wsX2_init wsX3_init := goodIn_r _ [10, 11, 2, 3, 12, 13, 14, 15] (by decide +kernel) (by decide +kernel)
set_option maxRecDepth 20000 in
theorem gX2_init_X3_init : GoodIn wsX2_init (wsX3_init) := ggX2_init_X3_init
set_option maxRecDepth 20000 in
theorem ggX2_isCall_X6_restOf : GoodIn wsX2_isCall wsX6_restOf := goodIn_r _ [5, 6] (by decide +kernel) (by decide +kernel)
set_option maxRecDepth 20000 in
theorem gX2_isCall_X6_restOf_n24 : GoodIn wsX2_isCall (wsX6_restOf) := ggX2_isCall_X6_restOf
set_option maxRecDepth 20000 in
theorem ggX2_readFrom_X3_at : GoodIn wsX2_readFrom wsX3_at := goodIn_r _ [14, 15, 16, 48, 49] (by decide +kernel) (by decide +kernel)
set_option maxRecDepth 20000 in
theorem gX2_readFrom_X3_at : GoodIn wsX2_readFrom (wsV RX2 30 RX3 yX3_at wsX3_at) := goodIn_app (goodIn_of _ (by decide +kernel)) ggX2_readFrom_X3_at
set_option maxRecDepth 20000 in
theorem ggX2_readFrom_X3_size : GoodIn wsX2_readFrom wsX3_size := goodIn_r _ [20, 15, 48, 49] (by decide +kernel) (by decide +kernel)
set_option maxRecDepth 20000 in
theorem gX2_readFrom_X3_size : GoodIn wsX2_readFrom (wsV RX2 34 RX3 yX3_size wsX3_size) := goodIn_app (goodIn_of _ (by decide +kernel)) ggX2_readFrom_X3_size
set_option maxRecDepth 20000 in
theorem ggX2_readFrom_X3_sum : GoodIn wsX2_readFrom wsX3_sum := goodIn_r _ [24, 15, 16, 25, 48, 49] (by decide +kernel) (by decide +kernel)
set_option maxRecDepth 20000 in
theorem gX2_readFrom_X3_sum : GoodIn wsX2_readFrom (wsV RX2 38 RX3 yX3_sum wsX3_sum) := goodIn_app (goodIn_of _ (by decide +kernel)) ggX2_readFrom_X3_sum
set_option maxRecDepth 20000 in
theorem ggX2_readFrom_X3_number : GoodIn wsX2_readFrom wsX3_number := goodIn_r _ [29, 30, 11, 12, 13, 14, 15, 16, 48, 49] (by decide +kernel) (by decide +kernel)
set_option maxRecDepth 20000 in
theorem gX2_readFrom_X3_number : GoodIn wsX2_readFrom (wsV RX2 42 RX3 yX3_number wsX3_number) := goodIn_app (goodIn_of _ (by decide +kernel)) ggX2_readFrom_X3_number
set_option maxRecDepth 20000 in
theorem ggX2_readFrom_X3_cut : GoodIn wsX2_readFrom wsX3_cut := goodIn_r _ [34, 15, 48, 49] (by decide +kernel) (by decide +kernel)
set_option maxRecDepth 20000 in
theorem gX2_readFrom_X3_cut : GoodIn wsX2_readFrom (wsV RX2 68 RX3 yX3_cut wsX3_cut) := goodIn_app (goodIn_of _ (by decide +kernel)) ggX2_readFrom_X3_cut
set_option maxRecDepth 20000 in
theorem ggX2_readFrom_X3_put : GoodIn wsX2_readFrom wsX3_put := goodIn_r _ [38, 15, 16, 48, 49] (by decide +kernel) (by decide +kernel)
set_option maxRecDepth 20000 in
theorem gX2_readFrom_X3_put : GoodIn wsX2_readFrom (wsV RX2 71 RX3 yX3_put wsX3_put) := goodIn_app (goodIn_of _ (by decide +kernel)) ggX2_readFrom_X3_put
set_option maxRecDepth 20000 in
theorem ggX2_writeTo_X3_size : GoodIn wsX2_writeTo wsX3_size := goodIn_r _ [14, 15, 47, 48] (by decide +kernel) (by decide +kernel)
set_option maxRecDepth 20000 in
theorem gX2_writeTo_X3_size : GoodIn wsX2_writeTo (wsV RX2 34 RX3 yX3_size wsX3_size) := goodIn_app (goodIn_of _ (by decide +kernel)) ggX2_writeTo_X3_size
set_option maxRecDepth 20000 in
theorem ggX2_writeTo_X3_cut : GoodIn wsX2_writeTo wsX3_cut := goodIn_r _ [19, 15, 47, 48] (by decide +kernel) (by decide +kernel)
set_option maxRecDepth 20000 in
theorem gX2_writeTo_X3_cut : GoodIn wsX2_writeTo (wsV RX2 68 RX3 yX3_cut wsX3_cut) := goodIn_app (goodIn_of _ (by decide +kernel)) ggX2_writeTo_X3_cut
set_option maxRecDepth 20000 in
theorem ggX2_writeTo_X3_put : GoodIn wsX2_writeTo wsX3_put := goodIn_r _ [23, 15, 24, 47, 48] (by decide +kernel) (by decide +kernel)
set_option maxRecDepth 20000 in
theorem gX2_writeTo_X3_put : GoodIn wsX2_writeTo (wsV RX2 71 RX3 yX3_put wsX3_put) := goodIn_app (goodIn_of _ (by decide +kernel)) ggX2_writeTo_X3_put
set_option maxRecDepth 20000 in
theorem ggX2_writeTo_X3_putNumber : GoodIn wsX2_writeTo wsX3_putNumber := goodIn_r _ [28, 15, 24, 47, 48] (by decide +kernel) (by decide +kernel)
set_option maxRecDepth 20000 in
theorem gX2_writeTo_X3_putNumber : GoodIn wsX2_writeTo (wsV RX2 74 RX3 yX3_putNumber wsX3_putNumber) := goodIn_app (goodIn_of _ (by decide +kernel)) ggX2_writeTo_X3_putNumber
set_option maxRecDepth 20000 in
theorem ggX2_writeTo_X3_at : GoodIn wsX2_writeTo wsX3_at := goodIn_r _ [32, 15, 24, 47, 48] (by decide +kernel) (by decide +kernel)
set_option maxRecDepth 20000 in
theorem gX2_writeTo_X3_at : GoodIn wsX2_writeTo (wsV RX2 30 RX3 yX3_at wsX3_at) := goodIn_app (goodIn_of _ (by decide +kernel)) ggX2_writeTo_X3_at
set_option maxRecDepth 20000 in
theorem ggX2_writeTo_X3_sum : GoodIn wsX2_writeTo wsX3_sum := goodIn_r _ [36, 15, 24, 37, 47, 48] (by decide +kernel) (by decide +kernel)
set_option maxRecDepth 20000 in
theorem gX2_writeTo_X3_sum : GoodIn wsX2_writeTo (wsV RX2 38 RX3 yX3_sum wsX3_sum) := goodIn_app (goodIn_of _ (by decide +kernel)) ggX2_writeTo_X3_sum
set_option maxRecDepth 20000 in
theorem ggX2_beginReply_X3_cut : GoodIn wsX2_beginReply wsX3_cut := goodIn_r _ [13, 14, 24, 25] (by decide +kernel) (by decide +kernel)
set_option maxRecDepth 20000 in
theorem gX2_beginReply_X3_cut : GoodIn wsX2_beginReply (wsV RX2 68 RX3 yX3_cut wsX3_cut) := goodIn_app (goodIn_of _ (by decide +kernel)) ggX2_beginReply_X3_cut
set_option maxRecDepth 20000 in
theorem ggX2_refuse_X3_putNumber : GoodIn wsX2_refuse wsX3_putNumber := goodIn_r _ [7, 8, 9, 19, 20] (by decide +kernel) (by decide +kernel)
set_option maxRecDepth 20000 in
theorem gX2_refuse_X3_putNumber : GoodIn wsX2_refuse (wsV RX2 74 RX3 yX3_putNumber wsX3_putNumber) := goodIn_app (goodIn_of _ (by decide +kernel)) ggX2_refuse_X3_putNumber
theorem dX3_init_0 : decode cX3_init 0 = .ok (.aload_n 0, 1) := by decide +kernel
theorem dX3_init_1 : decode cX3_init 1 = .ok (.invokespecial 1, 3) := by decide +kernel
theorem dX3_init_4 : decode cX3_init 4 = .ok (.aload_n 0, 1) := by decide +kernel
theorem dX3_init_5 : decode cX3_init 5 = .ok (.iload_n 1, 1) := by decide +kernel
theorem dX3_init_6 : decode cX3_init 6 = .ok (.ifCond .ge 7, 3) := by decide +kernel
theorem dX3_init_9 : decode cX3_init 9 = .ok (.iconst 0, 1) := by decide +kernel
theorem dX3_init_10 : decode cX3_init 10 = .ok (.goto 4, 3) := by decide +kernel
theorem dX3_init_13 : decode cX3_init 13 = .ok (.iload_n 1, 1) := by decide +kernel
theorem dX3_init_14 : decode cX3_init 14 = .ok (.newarray .int, 2) := by decide +kernel
theorem dX3_init_16 : decode cX3_init 16 = .ok (.putfield 7, 3) := by decide +kernel
theorem dX3_init_19 : decode cX3_init 19 = .ok (.return_, 1) := by decide +kernel
theorem dX3_size_0 : decode cX3_size 0 = .ok (.aload_n 0, 1) := by decide +kernel
theorem dX3_size_1 : decode cX3_size 1 = .ok (.getfield 13, 3) := by decide +kernel
theorem dX3_size_4 : decode cX3_size 4 = .ok (.ireturn, 1) := by decide +kernel
theorem dX3_at_0 : decode cX3_at 0 = .ok (.iload_n 1, 1) := by decide +kernel
theorem dX3_at_1 : decode cX3_at 1 = .ok (.ifCond .lt 20, 3) := by decide +kernel
theorem dX3_at_4 : decode cX3_at 4 = .ok (.iload_n 1, 1) := by decide +kernel
theorem dX3_at_5 : decode cX3_at 5 = .ok (.aload_n 0, 1) := by decide +kernel
theorem dX3_at_6 : decode cX3_at 6 = .ok (.getfield 13, 3) := by decide +kernel
theorem dX3_at_9 : decode cX3_at 9 = .ok (.if_icmp .ge 12, 3) := by decide +kernel
theorem dX3_at_12 : decode cX3_at 12 = .ok (.aload_n 0, 1) := by decide +kernel
theorem dX3_at_13 : decode cX3_at 13 = .ok (.getfield 7, 3) := by decide +kernel
theorem dX3_at_16 : decode cX3_at 16 = .ok (.iload_n 1, 1) := by decide +kernel
theorem dX3_at_17 : decode cX3_at 17 = .ok (.iaload, 1) := by decide +kernel
theorem dX3_at_18 : decode cX3_at 18 = .ok (.goto 4, 3) := by decide +kernel
theorem dX3_at_21 : decode cX3_at 21 = .ok (.iconst 0, 1) := by decide +kernel
theorem dX3_at_22 : decode cX3_at 22 = .ok (.ireturn, 1) := by decide +kernel
theorem dX3_number_0 : decode cX3_number 0 = .ok (.lconst 0, 1) := by decide +kernel
theorem dX3_number_1 : decode cX3_number 1 = .ok (.lstore_n 3, 1) := by decide +kernel
theorem dX3_number_2 : decode cX3_number 2 = .ok (.iload_n 1, 1) := by decide +kernel
theorem dX3_number_3 : decode cX3_number 3 = .ok (.istore 5, 2) := by decide +kernel
theorem dX3_number_5 : decode cX3_number 5 = .ok (.iload 5, 2) := by decide +kernel
theorem dX3_number_7 : decode cX3_number 7 = .ok (.iload_n 1, 1) := by decide +kernel
theorem dX3_number_8 : decode cX3_number 8 = .ok (.iload_n 2, 1) := by decide +kernel
theorem dX3_number_9 : decode cX3_number 9 = .ok (.iadd, 1) := by decide +kernel
theorem dX3_number_10 : decode cX3_number 10 = .ok (.if_icmp .ge 22, 3) := by decide +kernel
theorem dX3_number_13 : decode cX3_number 13 = .ok (.lload_n 3, 1) := by decide +kernel
theorem dX3_number_14 : decode cX3_number 14 = .ok (.bipush 8, 2) := by decide +kernel
theorem dX3_number_16 : decode cX3_number 16 = .ok (.lshl, 1) := by decide +kernel
theorem dX3_number_17 : decode cX3_number 17 = .ok (.aload_n 0, 1) := by decide +kernel
theorem dX3_number_18 : decode cX3_number 18 = .ok (.iload 5, 2) := by decide +kernel
theorem dX3_number_20 : decode cX3_number 20 = .ok (.invokevirtual 17, 3) := by decide +kernel
theorem dX3_number_23 : decode cX3_number 23 = .ok (.i2l, 1) := by decide +kernel
theorem dX3_number_24 : decode cX3_number 24 = .ok (.lor, 1) := by decide +kernel
theorem dX3_number_25 : decode cX3_number 25 = .ok (.lstore_n 3, 1) := by decide +kernel
theorem dX3_number_26 : decode cX3_number 26 = .ok (.iinc 5 1, 3) := by decide +kernel
theorem dX3_number_29 : decode cX3_number 29 = .ok (.goto (-24), 3) := by decide +kernel
theorem dX3_number_32 : decode cX3_number 32 = .ok (.lload_n 3, 1) := by decide +kernel
theorem dX3_number_33 : decode cX3_number 33 = .ok (.lreturn, 1) := by decide +kernel
theorem dX3_sum_0 : decode cX3_sum 0 = .ok (.iconst 0, 1) := by decide +kernel
theorem dX3_sum_1 : decode cX3_sum 1 = .ok (.istore_n 3, 1) := by decide +kernel
theorem dX3_sum_2 : decode cX3_sum 2 = .ok (.iload_n 1, 1) := by decide +kernel
theorem dX3_sum_3 : decode cX3_sum 3 = .ok (.istore 4, 2) := by decide +kernel
theorem dX3_sum_5 : decode cX3_sum 5 = .ok (.iload 4, 2) := by decide +kernel
theorem dX3_sum_7 : decode cX3_sum 7 = .ok (.ifCond .lt 34, 3) := by decide +kernel
theorem dX3_sum_10 : decode cX3_sum 10 = .ok (.iload 4, 2) := by decide +kernel
theorem dX3_sum_12 : decode cX3_sum 12 = .ok (.iload_n 2, 1) := by decide +kernel
theorem dX3_sum_13 : decode cX3_sum 13 = .ok (.if_icmp .ge 28, 3) := by decide +kernel
theorem dX3_sum_16 : decode cX3_sum 16 = .ok (.iload 4, 2) := by decide +kernel
theorem dX3_sum_18 : decode cX3_sum 18 = .ok (.aload_n 0, 1) := by decide +kernel
theorem dX3_sum_19 : decode cX3_sum 19 = .ok (.getfield 13, 3) := by decide +kernel
theorem dX3_sum_22 : decode cX3_sum 22 = .ok (.if_icmp .ge 19, 3) := by decide +kernel
theorem dX3_sum_25 : decode cX3_sum 25 = .ok (.iload_n 3, 1) := by decide +kernel
theorem dX3_sum_26 : decode cX3_sum 26 = .ok (.aload_n 0, 1) := by decide +kernel
theorem dX3_sum_27 : decode cX3_sum 27 = .ok (.getfield 7, 3) := by decide +kernel
theorem dX3_sum_30 : decode cX3_sum 30 = .ok (.iload 4, 2) := by decide +kernel
theorem dX3_sum_32 : decode cX3_sum 32 = .ok (.iaload, 1) := by decide +kernel
theorem dX3_sum_33 : decode cX3_sum 33 = .ok (.iadd, 1) := by decide +kernel
theorem dX3_sum_34 : decode cX3_sum 34 = .ok (.istore_n 3, 1) := by decide +kernel
theorem dX3_sum_35 : decode cX3_sum 35 = .ok (.iinc 4 1, 3) := by decide +kernel
theorem dX3_sum_38 : decode cX3_sum 38 = .ok (.goto (-33), 3) := by decide +kernel
theorem dX3_sum_41 : decode cX3_sum 41 = .ok (.iload_n 3, 1) := by decide +kernel
theorem dX3_sum_42 : decode cX3_sum 42 = .ok (.ldc 21, 2) := by decide +kernel
theorem dX3_sum_44 : decode cX3_sum 44 = .ok (.iand, 1) := by decide +kernel
theorem dX3_sum_45 : decode cX3_sum 45 = .ok (.ireturn, 1) := by decide +kernel
theorem dX3_cut_0 : decode cX3_cut 0 = .ok (.iload_n 1, 1) := by decide +kernel
theorem dX3_cut_1 : decode cX3_cut 1 = .ok (.ifCond .lt 16, 3) := by decide +kernel
theorem dX3_cut_4 : decode cX3_cut 4 = .ok (.iload_n 1, 1) := by decide +kernel
theorem dX3_cut_5 : decode cX3_cut 5 = .ok (.aload_n 0, 1) := by decide +kernel
theorem dX3_cut_6 : decode cX3_cut 6 = .ok (.getfield 13, 3) := by decide +kernel
theorem dX3_cut_9 : decode cX3_cut 9 = .ok (.if_icmp .ge 8, 3) := by decide +kernel
theorem dX3_cut_12 : decode cX3_cut 12 = .ok (.aload_n 0, 1) := by decide +kernel
theorem dX3_cut_13 : decode cX3_cut 13 = .ok (.iload_n 1, 1) := by decide +kernel
theorem dX3_cut_14 : decode cX3_cut 14 = .ok (.putfield 13, 3) := by decide +kernel
theorem dX3_cut_17 : decode cX3_cut 17 = .ok (.return_, 1) := by decide +kernel
theorem dX3_put_0 : decode cX3_put 0 = .ok (.aload_n 0, 1) := by decide +kernel
theorem dX3_put_1 : decode cX3_put 1 = .ok (.getfield 13, 3) := by decide +kernel
theorem dX3_put_4 : decode cX3_put 4 = .ok (.aload_n 0, 1) := by decide +kernel
theorem dX3_put_5 : decode cX3_put 5 = .ok (.getfield 7, 3) := by decide +kernel
theorem dX3_put_8 : decode cX3_put 8 = .ok (.arraylength, 1) := by decide +kernel
theorem dX3_put_9 : decode cX3_put 9 = .ok (.if_icmp .ge 27, 3) := by decide +kernel
theorem dX3_put_12 : decode cX3_put 12 = .ok (.aload_n 0, 1) := by decide +kernel
theorem dX3_put_13 : decode cX3_put 13 = .ok (.getfield 7, 3) := by decide +kernel
theorem dX3_put_16 : decode cX3_put 16 = .ok (.aload_n 0, 1) := by decide +kernel
theorem dX3_put_17 : decode cX3_put 17 = .ok (.getfield 13, 3) := by decide +kernel
theorem dX3_put_20 : decode cX3_put 20 = .ok (.iload_n 1, 1) := by decide +kernel
theorem dX3_put_21 : decode cX3_put 21 = .ok (.sipush 255, 3) := by decide +kernel
theorem dX3_put_24 : decode cX3_put 24 = .ok (.iand, 1) := by decide +kernel
theorem dX3_put_25 : decode cX3_put 25 = .ok (.iastore, 1) := by decide +kernel
theorem dX3_put_26 : decode cX3_put 26 = .ok (.aload_n 0, 1) := by decide +kernel
theorem dX3_put_27 : decode cX3_put 27 = .ok (.dup, 1) := by decide +kernel
theorem dX3_put_28 : decode cX3_put 28 = .ok (.getfield 13, 3) := by decide +kernel
theorem dX3_put_31 : decode cX3_put 31 = .ok (.iconst 1, 1) := by decide +kernel
theorem dX3_put_32 : decode cX3_put 32 = .ok (.iadd, 1) := by decide +kernel
theorem dX3_put_33 : decode cX3_put 33 = .ok (.putfield 13, 3) := by decide +kernel
theorem dX3_put_36 : decode cX3_put 36 = .ok (.return_, 1) := by decide +kernel
theorem dX3_putNumber_0 : decode cX3_putNumber 0 = .ok (.iload_n 3, 1) := by decide +kernel
theorem dX3_putNumber_1 : decode cX3_putNumber 1 = .ok (.iconst 1, 1) := by decide +kernel
theorem dX3_putNumber_2 : decode cX3_putNumber 2 = .ok (.isub, 1) := by decide +kernel
theorem dX3_putNumber_3 : decode cX3_putNumber 3 = .ok (.istore 4, 2) := by decide +kernel
theorem dX3_putNumber_5 : decode cX3_putNumber 5 = .ok (.iload 4, 2) := by decide +kernel
theorem dX3_putNumber_7 : decode cX3_putNumber 7 = .ok (.ifCond .lt 52, 3) := by decide +kernel
theorem dX3_putNumber_10 : decode cX3_putNumber 10 = .ok (.aload_n 0, 1) := by decide +kernel
theorem dX3_putNumber_11 : decode cX3_putNumber 11 = .ok (.getfield 13, 3) := by decide +kernel
theorem dX3_putNumber_14 : decode cX3_putNumber 14 = .ok (.aload_n 0, 1) := by decide +kernel
theorem dX3_putNumber_15 : decode cX3_putNumber 15 = .ok (.getfield 7, 3) := by decide +kernel
theorem dX3_putNumber_18 : decode cX3_putNumber 18 = .ok (.arraylength, 1) := by decide +kernel
theorem dX3_putNumber_19 : decode cX3_putNumber 19 = .ok (.if_icmp .ge 40, 3) := by decide +kernel
theorem dX3_putNumber_22 : decode cX3_putNumber 22 = .ok (.aload_n 0, 1) := by decide +kernel
theorem dX3_putNumber_23 : decode cX3_putNumber 23 = .ok (.getfield 7, 3) := by decide +kernel
theorem dX3_putNumber_26 : decode cX3_putNumber 26 = .ok (.aload_n 0, 1) := by decide +kernel
theorem dX3_putNumber_27 : decode cX3_putNumber 27 = .ok (.getfield 13, 3) := by decide +kernel
theorem dX3_putNumber_30 : decode cX3_putNumber 30 = .ok (.lload_n 1, 1) := by decide +kernel
theorem dX3_putNumber_31 : decode cX3_putNumber 31 = .ok (.bipush 8, 2) := by decide +kernel
theorem dX3_putNumber_33 : decode cX3_putNumber 33 = .ok (.iload 4, 2) := by decide +kernel
theorem dX3_putNumber_35 : decode cX3_putNumber 35 = .ok (.imul, 1) := by decide +kernel
theorem dX3_putNumber_36 : decode cX3_putNumber 36 = .ok (.lushr, 1) := by decide +kernel
theorem dX3_putNumber_37 : decode cX3_putNumber 37 = .ok (.l2i, 1) := by decide +kernel
theorem dX3_putNumber_38 : decode cX3_putNumber 38 = .ok (.sipush 255, 3) := by decide +kernel
theorem dX3_putNumber_41 : decode cX3_putNumber 41 = .ok (.iand, 1) := by decide +kernel
theorem dX3_putNumber_42 : decode cX3_putNumber 42 = .ok (.iastore, 1) := by decide +kernel
theorem dX3_putNumber_43 : decode cX3_putNumber 43 = .ok (.aload_n 0, 1) := by decide +kernel
theorem dX3_putNumber_44 : decode cX3_putNumber 44 = .ok (.dup, 1) := by decide +kernel
theorem dX3_putNumber_45 : decode cX3_putNumber 45 = .ok (.getfield 13, 3) := by decide +kernel
theorem dX3_putNumber_48 : decode cX3_putNumber 48 = .ok (.iconst 1, 1) := by decide +kernel
theorem dX3_putNumber_49 : decode cX3_putNumber 49 = .ok (.iadd, 1) := by decide +kernel
theorem dX3_putNumber_50 : decode cX3_putNumber 50 = .ok (.putfield 13, 3) := by decide +kernel
theorem dX3_putNumber_53 : decode cX3_putNumber 53 = .ok (.iinc 4 (-1), 3) := by decide +kernel
theorem dX3_putNumber_56 : decode cX3_putNumber 56 = .ok (.goto (-51), 3) := by decide +kernel
theorem dX3_putNumber_59 : decode cX3_putNumber 59 = .ok (.return_, 1) := by decide +kernel
theorem dX3_copyFrom_0 : decode cX3_copyFrom 0 = .ok (.aload_n 0, 1) := by decide +kernel
theorem dX3_copyFrom_1 : decode cX3_copyFrom 1 = .ok (.iconst 0, 1) := by decide +kernel
theorem dX3_copyFrom_2 : decode cX3_copyFrom 2 = .ok (.putfield 13, 3) := by decide +kernel
theorem dX3_copyFrom_5 : decode cX3_copyFrom 5 = .ok (.iconst 0, 1) := by decide +kernel
theorem dX3_copyFrom_6 : decode cX3_copyFrom 6 = .ok (.istore_n 2, 1) := by decide +kernel
theorem dX3_copyFrom_7 : decode cX3_copyFrom 7 = .ok (.iload_n 2, 1) := by decide +kernel
theorem dX3_copyFrom_8 : decode cX3_copyFrom 8 = .ok (.aload_n 1, 1) := by decide +kernel
theorem dX3_copyFrom_9 : decode cX3_copyFrom 9 = .ok (.getfield 13, 3) := by decide +kernel
theorem dX3_copyFrom_12 : decode cX3_copyFrom 12 = .ok (.if_icmp .ge 40, 3) := by decide +kernel
theorem dX3_copyFrom_15 : decode cX3_copyFrom 15 = .ok (.iload_n 2, 1) := by decide +kernel
theorem dX3_copyFrom_16 : decode cX3_copyFrom 16 = .ok (.aload_n 0, 1) := by decide +kernel
theorem dX3_copyFrom_17 : decode cX3_copyFrom 17 = .ok (.getfield 7, 3) := by decide +kernel
theorem dX3_copyFrom_20 : decode cX3_copyFrom 20 = .ok (.arraylength, 1) := by decide +kernel
theorem dX3_copyFrom_21 : decode cX3_copyFrom 21 = .ok (.if_icmp .ge 31, 3) := by decide +kernel
theorem dX3_copyFrom_24 : decode cX3_copyFrom 24 = .ok (.aload_n 0, 1) := by decide +kernel
theorem dX3_copyFrom_25 : decode cX3_copyFrom 25 = .ok (.getfield 7, 3) := by decide +kernel
theorem dX3_copyFrom_28 : decode cX3_copyFrom 28 = .ok (.iload_n 2, 1) := by decide +kernel
theorem dX3_copyFrom_29 : decode cX3_copyFrom 29 = .ok (.aload_n 1, 1) := by decide +kernel
theorem dX3_copyFrom_30 : decode cX3_copyFrom 30 = .ok (.getfield 7, 3) := by decide +kernel
theorem dX3_copyFrom_33 : decode cX3_copyFrom 33 = .ok (.iload_n 2, 1) := by decide +kernel
theorem dX3_copyFrom_34 : decode cX3_copyFrom 34 = .ok (.iaload, 1) := by decide +kernel
theorem dX3_copyFrom_35 : decode cX3_copyFrom 35 = .ok (.iastore, 1) := by decide +kernel
theorem dX3_copyFrom_36 : decode cX3_copyFrom 36 = .ok (.aload_n 0, 1) := by decide +kernel
theorem dX3_copyFrom_37 : decode cX3_copyFrom 37 = .ok (.dup, 1) := by decide +kernel
theorem dX3_copyFrom_38 : decode cX3_copyFrom 38 = .ok (.getfield 13, 3) := by decide +kernel
theorem dX3_copyFrom_41 : decode cX3_copyFrom 41 = .ok (.iconst 1, 1) := by decide +kernel
theorem dX3_copyFrom_42 : decode cX3_copyFrom 42 = .ok (.iadd, 1) := by decide +kernel
theorem dX3_copyFrom_43 : decode cX3_copyFrom 43 = .ok (.putfield 13, 3) := by decide +kernel
theorem dX3_copyFrom_46 : decode cX3_copyFrom 46 = .ok (.iinc 2 1, 3) := by decide +kernel
theorem dX3_copyFrom_49 : decode cX3_copyFrom 49 = .ok (.goto (-42), 3) := by decide +kernel
theorem dX3_copyFrom_52 : decode cX3_copyFrom 52 = .ok (.return_, 1) := by decide +kernel
theorem dX3_join_0 : decode cX3_join 0 = .ok (.iconst 0, 1) := by decide +kernel
theorem dX3_join_1 : decode cX3_join 1 = .ok (.istore_n 2, 1) := by decide +kernel
theorem dX3_join_2 : decode cX3_join 2 = .ok (.iload_n 2, 1) := by decide +kernel
theorem dX3_join_3 : decode cX3_join 3 = .ok (.aload_n 1, 1) := by decide +kernel
theorem dX3_join_4 : decode cX3_join 4 = .ok (.getfield 13, 3) := by decide +kernel
theorem dX3_join_7 : decode cX3_join 7 = .ok (.if_icmp .ge 66, 3) := by decide +kernel
theorem dX3_join_10 : decode cX3_join 10 = .ok (.iload_n 2, 1) := by decide +kernel
theorem dX3_join_11 : decode cX3_join 11 = .ok (.aload_n 0, 1) := by decide +kernel
theorem dX3_join_12 : decode cX3_join 12 = .ok (.getfield 7, 3) := by decide +kernel
theorem dX3_join_15 : decode cX3_join 15 = .ok (.arraylength, 1) := by decide +kernel
theorem dX3_join_16 : decode cX3_join 16 = .ok (.if_icmp .ge 57, 3) := by decide +kernel
theorem dX3_join_19 : decode cX3_join 19 = .ok (.iload_n 2, 1) := by decide +kernel
theorem dX3_join_20 : decode cX3_join 20 = .ok (.aload_n 0, 1) := by decide +kernel
theorem dX3_join_21 : decode cX3_join 21 = .ok (.getfield 13, 3) := by decide +kernel
theorem dX3_join_24 : decode cX3_join 24 = .ok (.if_icmp .ge 21, 3) := by decide +kernel
theorem dX3_join_27 : decode cX3_join 27 = .ok (.aload_n 0, 1) := by decide +kernel
theorem dX3_join_28 : decode cX3_join 28 = .ok (.getfield 7, 3) := by decide +kernel
theorem dX3_join_31 : decode cX3_join 31 = .ok (.iload_n 2, 1) := by decide +kernel
theorem dX3_join_32 : decode cX3_join 32 = .ok (.dup2, 1) := by decide +kernel
theorem dX3_join_33 : decode cX3_join 33 = .ok (.iaload, 1) := by decide +kernel
theorem dX3_join_34 : decode cX3_join 34 = .ok (.aload_n 1, 1) := by decide +kernel
theorem dX3_join_35 : decode cX3_join 35 = .ok (.getfield 7, 3) := by decide +kernel
theorem dX3_join_38 : decode cX3_join 38 = .ok (.iload_n 2, 1) := by decide +kernel
theorem dX3_join_39 : decode cX3_join 39 = .ok (.iaload, 1) := by decide +kernel
theorem dX3_join_40 : decode cX3_join 40 = .ok (.ior, 1) := by decide +kernel
theorem dX3_join_41 : decode cX3_join 41 = .ok (.iastore, 1) := by decide +kernel
theorem dX3_join_42 : decode cX3_join 42 = .ok (.goto 25, 3) := by decide +kernel
theorem dX3_join_45 : decode cX3_join 45 = .ok (.aload_n 0, 1) := by decide +kernel
theorem dX3_join_46 : decode cX3_join 46 = .ok (.getfield 7, 3) := by decide +kernel
theorem dX3_join_49 : decode cX3_join 49 = .ok (.iload_n 2, 1) := by decide +kernel
theorem dX3_join_50 : decode cX3_join 50 = .ok (.aload_n 1, 1) := by decide +kernel
theorem dX3_join_51 : decode cX3_join 51 = .ok (.getfield 7, 3) := by decide +kernel
theorem dX3_join_54 : decode cX3_join 54 = .ok (.iload_n 2, 1) := by decide +kernel
theorem dX3_join_55 : decode cX3_join 55 = .ok (.iaload, 1) := by decide +kernel
theorem dX3_join_56 : decode cX3_join 56 = .ok (.iastore, 1) := by decide +kernel
theorem dX3_join_57 : decode cX3_join 57 = .ok (.aload_n 0, 1) := by decide +kernel
theorem dX3_join_58 : decode cX3_join 58 = .ok (.dup, 1) := by decide +kernel
theorem dX3_join_59 : decode cX3_join 59 = .ok (.getfield 13, 3) := by decide +kernel
theorem dX3_join_62 : decode cX3_join 62 = .ok (.iconst 1, 1) := by decide +kernel
theorem dX3_join_63 : decode cX3_join 63 = .ok (.iadd, 1) := by decide +kernel
theorem dX3_join_64 : decode cX3_join 64 = .ok (.putfield 13, 3) := by decide +kernel
theorem dX3_join_67 : decode cX3_join 67 = .ok (.iinc 2 1, 3) := by decide +kernel
theorem dX3_join_70 : decode cX3_join 70 = .ok (.goto (-68), 3) := by decide +kernel
theorem dX3_join_73 : decode cX3_join 73 = .ok (.return_, 1) := by decide +kernel
theorem dX3_flip_0 : decode cX3_flip 0 = .ok (.iload_n 1, 1) := by decide +kernel
theorem dX3_flip_1 : decode cX3_flip 1 = .ok (.ifCond .lt 25, 3) := by decide +kernel
theorem dX3_flip_4 : decode cX3_flip 4 = .ok (.iload_n 1, 1) := by decide +kernel
theorem dX3_flip_5 : decode cX3_flip 5 = .ok (.aload_n 0, 1) := by decide +kernel
theorem dX3_flip_6 : decode cX3_flip 6 = .ok (.getfield 13, 3) := by decide +kernel
theorem dX3_flip_9 : decode cX3_flip 9 = .ok (.if_icmp .ge 17, 3) := by decide +kernel
theorem dX3_flip_12 : decode cX3_flip 12 = .ok (.aload_n 0, 1) := by decide +kernel
theorem dX3_flip_13 : decode cX3_flip 13 = .ok (.getfield 7, 3) := by decide +kernel
theorem dX3_flip_16 : decode cX3_flip 16 = .ok (.iload_n 1, 1) := by decide +kernel
theorem dX3_flip_17 : decode cX3_flip 17 = .ok (.dup2, 1) := by decide +kernel
theorem dX3_flip_18 : decode cX3_flip 18 = .ok (.iaload, 1) := by decide +kernel
theorem dX3_flip_19 : decode cX3_flip 19 = .ok (.iload_n 2, 1) := by decide +kernel
theorem dX3_flip_20 : decode cX3_flip 20 = .ok (.sipush 255, 3) := by decide +kernel
theorem dX3_flip_23 : decode cX3_flip 23 = .ok (.iand, 1) := by decide +kernel
theorem dX3_flip_24 : decode cX3_flip 24 = .ok (.ixor, 1) := by decide +kernel
theorem dX3_flip_25 : decode cX3_flip 25 = .ok (.iastore, 1) := by decide +kernel
theorem dX3_flip_26 : decode cX3_flip 26 = .ok (.return_, 1) := by decide +kernel
set_option maxRecDepth 20000 in
theorem ggX3_number_X3_at : GoodIn wsX3_number wsX3_at := goodIn_r _ [5, 6, 7, 8, 9] (by decide +kernel) (by decide +kernel)
set_option maxRecDepth 20000 in
theorem gX3_number_X3_at : GoodIn wsX3_number (wsV RX3 17 RX3 yX3_at wsX3_at) := goodIn_app (goodIn_of _ (by decide +kernel)) ggX3_number_X3_at
theorem dX4_init_0 : decode cX4_init 0 = .ok (.aload_n 0, 1) := by decide +kernel
theorem dX4_init_1 : decode cX4_init 1 = .ok (.invokespecial 3, 3) := by decide +kernel
theorem dX4_init_4 : decode cX4_init 4 = .ok (.aload_n 0, 1) := by decide +kernel
theorem dX4_init_5 : decode cX4_init 5 = .ok (.bipush 64, 2) := by decide +kernel
theorem dX4_init_7 : decode cX4_init 7 = .ok (.newarray .long, 2) := by decide +kernel
theorem dX4_init_9 : decode cX4_init 9 = .ok (.putfield 11, 3) := by decide +kernel
theorem dX4_init_12 : decode cX4_init 12 = .ok (.aload_n 0, 1) := by decide +kernel
theorem dX4_init_13 : decode cX4_init 13 = .ok (.bipush 64, 2) := by decide +kernel
theorem dX4_init_15 : decode cX4_init 15 = .ok (.newarray .long, 2) := by decide +kernel
theorem dX4_init_17 : decode cX4_init 17 = .ok (.putfield 15, 3) := by decide +kernel
theorem dX4_init_20 : decode cX4_init 20 = .ok (.aload_n 0, 1) := by decide +kernel
theorem dX4_init_21 : decode cX4_init 21 = .ok (.bipush 24, 2) := by decide +kernel
theorem dX4_init_23 : decode cX4_init 23 = .ok (.newarray .long, 2) := by decide +kernel
theorem dX4_init_25 : decode cX4_init 25 = .ok (.putfield 18, 3) := by decide +kernel
theorem dX4_init_28 : decode cX4_init 28 = .ok (.return_, 1) := by decide +kernel
theorem dX4_begin_0 : decode cX4_begin 0 = .ok (.aload_n 0, 1) := by decide +kernel
theorem dX4_begin_1 : decode cX4_begin 1 = .ok (.iconst 1, 1) := by decide +kernel
theorem dX4_begin_2 : decode cX4_begin 2 = .ok (.putfield 21, 3) := by decide +kernel
theorem dX4_begin_5 : decode cX4_begin 5 = .ok (.aload_n 0, 1) := by decide +kernel
theorem dX4_begin_6 : decode cX4_begin 6 = .ok (.iconst 0, 1) := by decide +kernel
theorem dX4_begin_7 : decode cX4_begin 7 = .ok (.putfield 25, 3) := by decide +kernel
theorem dX4_begin_10 : decode cX4_begin 10 = .ok (.aload_n 0, 1) := by decide +kernel
theorem dX4_begin_11 : decode cX4_begin 11 = .ok (.iconst 0, 1) := by decide +kernel
theorem dX4_begin_12 : decode cX4_begin 12 = .ok (.putfield 29, 3) := by decide +kernel
theorem dX4_begin_15 : decode cX4_begin 15 = .ok (.aload_n 0, 1) := by decide +kernel
theorem dX4_begin_16 : decode cX4_begin 16 = .ok (.iconst 0, 1) := by decide +kernel
theorem dX4_begin_17 : decode cX4_begin 17 = .ok (.putfield 32, 3) := by decide +kernel
theorem dX4_begin_20 : decode cX4_begin 20 = .ok (.aload_n 0, 1) := by decide +kernel
theorem dX4_begin_21 : decode cX4_begin 21 = .ok (.lconst 0, 1) := by decide +kernel
theorem dX4_begin_22 : decode cX4_begin 22 = .ok (.ldc2_w 35, 3) := by decide +kernel
theorem dX4_begin_25 : decode cX4_begin 25 = .ok (.invokevirtual 37, 3) := by decide +kernel
theorem dX4_begin_28 : decode cX4_begin 28 = .ok (.return_, 1) := by decide +kernel
theorem dX4_latestLow_0 : decode cX4_latestLow 0 = .ok (.aload_n 0, 1) := by decide +kernel
theorem dX4_latestLow_1 : decode cX4_latestLow 1 = .ok (.getfield 25, 3) := by decide +kernel
theorem dX4_latestLow_4 : decode cX4_latestLow 4 = .ok (.ifCond .le 17, 3) := by decide +kernel
theorem dX4_latestLow_7 : decode cX4_latestLow 7 = .ok (.aload_n 0, 1) := by decide +kernel
theorem dX4_latestLow_8 : decode cX4_latestLow 8 = .ok (.getfield 11, 3) := by decide +kernel
theorem dX4_latestLow_11 : decode cX4_latestLow 11 = .ok (.aload_n 0, 1) := by decide +kernel
theorem dX4_latestLow_12 : decode cX4_latestLow 12 = .ok (.getfield 25, 3) := by decide +kernel
theorem dX4_latestLow_15 : decode cX4_latestLow 15 = .ok (.iconst 1, 1) := by decide +kernel
theorem dX4_latestLow_16 : decode cX4_latestLow 16 = .ok (.isub, 1) := by decide +kernel
theorem dX4_latestLow_17 : decode cX4_latestLow 17 = .ok (.laload, 1) := by decide +kernel
theorem dX4_latestLow_18 : decode cX4_latestLow 18 = .ok (.goto 6, 3) := by decide +kernel
theorem dX4_latestLow_21 : decode cX4_latestLow 21 = .ok (.ldc2_w 41, 3) := by decide +kernel
theorem dX4_latestLow_24 : decode cX4_latestLow 24 = .ok (.lreturn, 1) := by decide +kernel
theorem dX4_latestHigh_0 : decode cX4_latestHigh 0 = .ok (.aload_n 0, 1) := by decide +kernel
theorem dX4_latestHigh_1 : decode cX4_latestHigh 1 = .ok (.getfield 25, 3) := by decide +kernel
theorem dX4_latestHigh_4 : decode cX4_latestHigh 4 = .ok (.ifCond .le 17, 3) := by decide +kernel
theorem dX4_latestHigh_7 : decode cX4_latestHigh 7 = .ok (.aload_n 0, 1) := by decide +kernel
theorem dX4_latestHigh_8 : decode cX4_latestHigh 8 = .ok (.getfield 15, 3) := by decide +kernel
theorem dX4_latestHigh_11 : decode cX4_latestHigh 11 = .ok (.aload_n 0, 1) := by decide +kernel
theorem dX4_latestHigh_12 : decode cX4_latestHigh 12 = .ok (.getfield 25, 3) := by decide +kernel
theorem dX4_latestHigh_15 : decode cX4_latestHigh 15 = .ok (.iconst 1, 1) := by decide +kernel
theorem dX4_latestHigh_16 : decode cX4_latestHigh 16 = .ok (.isub, 1) := by decide +kernel
theorem dX4_latestHigh_17 : decode cX4_latestHigh 17 = .ok (.laload, 1) := by decide +kernel
theorem dX4_latestHigh_18 : decode cX4_latestHigh 18 = .ok (.goto 6, 3) := by decide +kernel
theorem dX4_latestHigh_21 : decode cX4_latestHigh 21 = .ok (.ldc2_w 41, 3) := by decide +kernel
theorem dX4_latestHigh_24 : decode cX4_latestHigh 24 = .ok (.lreturn, 1) := by decide +kernel
theorem dX4_takeLatest_0 : decode cX4_takeLatest 0 = .ok (.aload_n 0, 1) := by decide +kernel
theorem dX4_takeLatest_1 : decode cX4_takeLatest 1 = .ok (.getfield 25, 3) := by decide +kernel
theorem dX4_takeLatest_4 : decode cX4_takeLatest 4 = .ok (.ifCond .le 23, 3) := by decide +kernel
theorem dX4_takeLatest_7 : decode cX4_takeLatest 7 = .ok (.aload_n 0, 1) := by decide +kernel
theorem dX4_takeLatest_8 : decode cX4_takeLatest 8 = .ok (.dup, 1) := by decide +kernel
theorem dX4_takeLatest_9 : decode cX4_takeLatest 9 = .ok (.getfield 25, 3) := by decide +kernel
theorem dX4_takeLatest_12 : decode cX4_takeLatest 12 = .ok (.iconst 1, 1) := by decide +kernel
theorem dX4_takeLatest_13 : decode cX4_takeLatest 13 = .ok (.isub, 1) := by decide +kernel
theorem dX4_takeLatest_14 : decode cX4_takeLatest 14 = .ok (.putfield 25, 3) := by decide +kernel
theorem dX4_takeLatest_17 : decode cX4_takeLatest 17 = .ok (.aload_n 0, 1) := by decide +kernel
theorem dX4_takeLatest_18 : decode cX4_takeLatest 18 = .ok (.dup, 1) := by decide +kernel
theorem dX4_takeLatest_19 : decode cX4_takeLatest 19 = .ok (.getfield 32, 3) := by decide +kernel
theorem dX4_takeLatest_22 : decode cX4_takeLatest 22 = .ok (.iconst 1, 1) := by decide +kernel
theorem dX4_takeLatest_23 : decode cX4_takeLatest 23 = .ok (.iadd, 1) := by decide +kernel
theorem dX4_takeLatest_24 : decode cX4_takeLatest 24 = .ok (.putfield 32, 3) := by decide +kernel
theorem dX4_takeLatest_27 : decode cX4_takeLatest 27 = .ok (.return_, 1) := by decide +kernel
theorem dX4_pile_0 : decode cX4_pile 0 = .ok (.aload_n 0, 1) := by decide +kernel
theorem dX4_pile_1 : decode cX4_pile 1 = .ok (.getfield 25, 3) := by decide +kernel
theorem dX4_pile_4 : decode cX4_pile 4 = .ok (.bipush 64, 2) := by decide +kernel
theorem dX4_pile_6 : decode cX4_pile 6 = .ok (.if_icmp .ge 33, 3) := by decide +kernel
theorem dX4_pile_9 : decode cX4_pile 9 = .ok (.aload_n 0, 1) := by decide +kernel
theorem dX4_pile_10 : decode cX4_pile 10 = .ok (.getfield 11, 3) := by decide +kernel
theorem dX4_pile_13 : decode cX4_pile 13 = .ok (.aload_n 0, 1) := by decide +kernel
theorem dX4_pile_14 : decode cX4_pile 14 = .ok (.getfield 25, 3) := by decide +kernel
theorem dX4_pile_17 : decode cX4_pile 17 = .ok (.lload_n 1, 1) := by decide +kernel
theorem dX4_pile_18 : decode cX4_pile 18 = .ok (.lastore, 1) := by decide +kernel
theorem dX4_pile_19 : decode cX4_pile 19 = .ok (.aload_n 0, 1) := by decide +kernel
theorem dX4_pile_20 : decode cX4_pile 20 = .ok (.getfield 15, 3) := by decide +kernel
theorem dX4_pile_23 : decode cX4_pile 23 = .ok (.aload_n 0, 1) := by decide +kernel
theorem dX4_pile_24 : decode cX4_pile 24 = .ok (.getfield 25, 3) := by decide +kernel
theorem dX4_pile_27 : decode cX4_pile 27 = .ok (.lload_n 3, 1) := by decide +kernel
theorem dX4_pile_28 : decode cX4_pile 28 = .ok (.lastore, 1) := by decide +kernel
theorem dX4_pile_29 : decode cX4_pile 29 = .ok (.aload_n 0, 1) := by decide +kernel
theorem dX4_pile_30 : decode cX4_pile 30 = .ok (.dup, 1) := by decide +kernel
theorem dX4_pile_31 : decode cX4_pile 31 = .ok (.getfield 25, 3) := by decide +kernel
theorem dX4_pile_34 : decode cX4_pile 34 = .ok (.iconst 1, 1) := by decide +kernel
theorem dX4_pile_35 : decode cX4_pile 35 = .ok (.iadd, 1) := by decide +kernel
theorem dX4_pile_36 : decode cX4_pile 36 = .ok (.putfield 25, 3) := by decide +kernel
theorem dX4_pile_39 : decode cX4_pile 39 = .ok (.return_, 1) := by decide +kernel
theorem dX4_hasFound_0 : decode cX4_hasFound 0 = .ok (.iconst 0, 1) := by decide +kernel
theorem dX4_hasFound_1 : decode cX4_hasFound 1 = .ok (.istore_n 3, 1) := by decide +kernel
theorem dX4_hasFound_2 : decode cX4_hasFound 2 = .ok (.iload_n 3, 1) := by decide +kernel
theorem dX4_hasFound_3 : decode cX4_hasFound 3 = .ok (.aload_n 0, 1) := by decide +kernel
theorem dX4_hasFound_4 : decode cX4_hasFound 4 = .ok (.getfield 29, 3) := by decide +kernel
theorem dX4_hasFound_7 : decode cX4_hasFound 7 = .ok (.if_icmp .ge 22, 3) := by decide +kernel
theorem dX4_hasFound_10 : decode cX4_hasFound 10 = .ok (.aload_n 0, 1) := by decide +kernel
theorem dX4_hasFound_11 : decode cX4_hasFound 11 = .ok (.getfield 18, 3) := by decide +kernel
theorem dX4_hasFound_14 : decode cX4_hasFound 14 = .ok (.iload_n 3, 1) := by decide +kernel
theorem dX4_hasFound_15 : decode cX4_hasFound 15 = .ok (.laload, 1) := by decide +kernel
theorem dX4_hasFound_16 : decode cX4_hasFound 16 = .ok (.lload_n 1, 1) := by decide +kernel
theorem dX4_hasFound_17 : decode cX4_hasFound 17 = .ok (.lcmp, 1) := by decide +kernel
theorem dX4_hasFound_18 : decode cX4_hasFound 18 = .ok (.ifCond .ne 5, 3) := by decide +kernel
theorem dX4_hasFound_21 : decode cX4_hasFound 21 = .ok (.iconst 1, 1) := by decide +kernel
theorem dX4_hasFound_22 : decode cX4_hasFound 22 = .ok (.ireturn, 1) := by decide +kernel
theorem dX4_hasFound_23 : decode cX4_hasFound 23 = .ok (.iinc 3 1, 3) := by decide +kernel
theorem dX4_hasFound_26 : decode cX4_hasFound 26 = .ok (.goto (-24), 3) := by decide +kernel
theorem dX4_hasFound_29 : decode cX4_hasFound 29 = .ok (.iconst 0, 1) := by decide +kernel
theorem dX4_hasFound_30 : decode cX4_hasFound 30 = .ok (.ireturn, 1) := by decide +kernel
theorem dX4_keepFound_0 : decode cX4_keepFound 0 = .ok (.aload_n 0, 1) := by decide +kernel
theorem dX4_keepFound_1 : decode cX4_keepFound 1 = .ok (.lload_n 1, 1) := by decide +kernel
theorem dX4_keepFound_2 : decode cX4_keepFound 2 = .ok (.invokevirtual 43, 3) := by decide +kernel
theorem dX4_keepFound_5 : decode cX4_keepFound 5 = .ok (.ifCond .ne 32, 3) := by decide +kernel
theorem dX4_keepFound_8 : decode cX4_keepFound 8 = .ok (.aload_n 0, 1) := by decide +kernel
theorem dX4_keepFound_9 : decode cX4_keepFound 9 = .ok (.getfield 29, 3) := by decide +kernel
theorem dX4_keepFound_12 : decode cX4_keepFound 12 = .ok (.bipush 24, 2) := by decide +kernel
theorem dX4_keepFound_14 : decode cX4_keepFound 14 = .ok (.if_icmp .ge 23, 3) := by decide +kernel
theorem dX4_keepFound_17 : decode cX4_keepFound 17 = .ok (.aload_n 0, 1) := by decide +kernel
theorem dX4_keepFound_18 : decode cX4_keepFound 18 = .ok (.getfield 18, 3) := by decide +kernel
theorem dX4_keepFound_21 : decode cX4_keepFound 21 = .ok (.aload_n 0, 1) := by decide +kernel
theorem dX4_keepFound_22 : decode cX4_keepFound 22 = .ok (.getfield 29, 3) := by decide +kernel
theorem dX4_keepFound_25 : decode cX4_keepFound 25 = .ok (.lload_n 1, 1) := by decide +kernel
theorem dX4_keepFound_26 : decode cX4_keepFound 26 = .ok (.lastore, 1) := by decide +kernel
theorem dX4_keepFound_27 : decode cX4_keepFound 27 = .ok (.aload_n 0, 1) := by decide +kernel
theorem dX4_keepFound_28 : decode cX4_keepFound 28 = .ok (.dup, 1) := by decide +kernel
theorem dX4_keepFound_29 : decode cX4_keepFound 29 = .ok (.getfield 29, 3) := by decide +kernel
theorem dX4_keepFound_32 : decode cX4_keepFound 32 = .ok (.iconst 1, 1) := by decide +kernel
theorem dX4_keepFound_33 : decode cX4_keepFound 33 = .ok (.iadd, 1) := by decide +kernel
theorem dX4_keepFound_34 : decode cX4_keepFound 34 = .ok (.putfield 29, 3) := by decide +kernel
theorem dX4_keepFound_37 : decode cX4_keepFound 37 = .ok (.return_, 1) := by decide +kernel
set_option maxRecDepth 20000 in
theorem ggX4_begin_X4_pile : GoodIn wsX4_begin wsX4_pile := goodIn_r _ [10, 2, 11, 12, 13, 14, 15, 16, 17, 18, 19] (by decide +kernel) (by decide +kernel)
set_option maxRecDepth 20000 in
theorem gX4_begin_X4_pile : GoodIn wsX4_begin (wsV RX4 37 RX4 yX4_pile wsX4_pile) := goodIn_app (goodIn_of _ (by decide +kernel)) ggX4_begin_X4_pile
set_option maxRecDepth 20000 in
theorem ggX4_keepFound_X4_hasFound : GoodIn wsX4_keepFound wsX4_hasFound := goodIn_r _ [7, 1, 2, 8, 9, 10, 11, 12, 13, 14] (by decide +kernel) (by decide +kernel)
set_option maxRecDepth 20000 in
theorem gX4_keepFound_X4_hasFound : GoodIn wsX4_keepFound (wsV RX4 43 RX4 yX4_hasFound wsX4_hasFound) := goodIn_app (goodIn_of _ (by decide +kernel)) ggX4_keepFound_X4_hasFound
theorem dX5_init_0 : decode cX5_init 0 = .ok (.aload_n 0, 1) := by decide +kernel
theorem dX5_init_1 : decode cX5_init 1 = .ok (.invokespecial 1, 3) := by decide +kernel
theorem dX5_init_4 : decode cX5_init 4 = .ok (.aload_n 0, 1) := by decide +kernel
theorem dX5_init_5 : decode cX5_init 5 = .ok (.bipush 16, 2) := by decide +kernel
theorem dX5_init_7 : decode cX5_init 7 = .ok (.newarray .int, 2) := by decide +kernel
theorem dX5_init_9 : decode cX5_init 9 = .ok (.putfield 9, 3) := by decide +kernel
theorem dX5_init_12 : decode cX5_init 12 = .ok (.aload_n 0, 1) := by decide +kernel
theorem dX5_init_13 : decode cX5_init 13 = .ok (.bipush 16, 2) := by decide +kernel
theorem dX5_init_15 : decode cX5_init 15 = .ok (.newarray .int, 2) := by decide +kernel
theorem dX5_init_17 : decode cX5_init 17 = .ok (.putfield 13, 3) := by decide +kernel
theorem dX5_init_20 : decode cX5_init 20 = .ok (.return_, 1) := by decide +kernel
theorem dX5_add_0 : decode cX5_add 0 = .ok (.aload_n 0, 1) := by decide +kernel
theorem dX5_add_1 : decode cX5_add 1 = .ok (.getfield 16, 3) := by decide +kernel
theorem dX5_add_4 : decode cX5_add 4 = .ok (.bipush 16, 2) := by decide +kernel
theorem dX5_add_6 : decode cX5_add 6 = .ok (.if_icmp .lt 7, 3) := by decide +kernel
theorem dX5_add_9 : decode cX5_add 9 = .ok (.aload_n 0, 1) := by decide +kernel
theorem dX5_add_10 : decode cX5_add 10 = .ok (.invokevirtual 20, 3) := by decide +kernel
theorem dX5_add_13 : decode cX5_add 13 = .ok (.aload_n 0, 1) := by decide +kernel
theorem dX5_add_14 : decode cX5_add 14 = .ok (.getfield 9, 3) := by decide +kernel
theorem dX5_add_17 : decode cX5_add 17 = .ok (.aload_n 0, 1) := by decide +kernel
theorem dX5_add_18 : decode cX5_add 18 = .ok (.getfield 16, 3) := by decide +kernel
theorem dX5_add_21 : decode cX5_add 21 = .ok (.iload_n 1, 1) := by decide +kernel
theorem dX5_add_22 : decode cX5_add 22 = .ok (.iastore, 1) := by decide +kernel
theorem dX5_add_23 : decode cX5_add 23 = .ok (.aload_n 0, 1) := by decide +kernel
theorem dX5_add_24 : decode cX5_add 24 = .ok (.getfield 13, 3) := by decide +kernel
theorem dX5_add_27 : decode cX5_add 27 = .ok (.aload_n 0, 1) := by decide +kernel
theorem dX5_add_28 : decode cX5_add 28 = .ok (.getfield 16, 3) := by decide +kernel
theorem dX5_add_31 : decode cX5_add 31 = .ok (.iload_n 2, 1) := by decide +kernel
theorem dX5_add_32 : decode cX5_add 32 = .ok (.iastore, 1) := by decide +kernel
theorem dX5_add_33 : decode cX5_add 33 = .ok (.aload_n 0, 1) := by decide +kernel
theorem dX5_add_34 : decode cX5_add 34 = .ok (.dup, 1) := by decide +kernel
theorem dX5_add_35 : decode cX5_add 35 = .ok (.getfield 16, 3) := by decide +kernel
theorem dX5_add_38 : decode cX5_add 38 = .ok (.iconst 1, 1) := by decide +kernel
theorem dX5_add_39 : decode cX5_add 39 = .ok (.iadd, 1) := by decide +kernel
theorem dX5_add_40 : decode cX5_add 40 = .ok (.putfield 16, 3) := by decide +kernel
theorem dX5_add_43 : decode cX5_add 43 = .ok (.return_, 1) := by decide +kernel
theorem dX5_dropFirst_0 : decode cX5_dropFirst 0 = .ok (.iconst 1, 1) := by decide +kernel
theorem dX5_dropFirst_1 : decode cX5_dropFirst 1 = .ok (.istore_n 1, 1) := by decide +kernel
theorem dX5_dropFirst_2 : decode cX5_dropFirst 2 = .ok (.iload_n 1, 1) := by decide +kernel
theorem dX5_dropFirst_3 : decode cX5_dropFirst 3 = .ok (.bipush 16, 2) := by decide +kernel
theorem dX5_dropFirst_5 : decode cX5_dropFirst 5 = .ok (.if_icmp .ge 37, 3) := by decide +kernel
theorem dX5_dropFirst_8 : decode cX5_dropFirst 8 = .ok (.aload_n 0, 1) := by decide +kernel
theorem dX5_dropFirst_9 : decode cX5_dropFirst 9 = .ok (.getfield 9, 3) := by decide +kernel
theorem dX5_dropFirst_12 : decode cX5_dropFirst 12 = .ok (.iload_n 1, 1) := by decide +kernel
theorem dX5_dropFirst_13 : decode cX5_dropFirst 13 = .ok (.iconst 1, 1) := by decide +kernel
theorem dX5_dropFirst_14 : decode cX5_dropFirst 14 = .ok (.isub, 1) := by decide +kernel
theorem dX5_dropFirst_15 : decode cX5_dropFirst 15 = .ok (.aload_n 0, 1) := by decide +kernel
theorem dX5_dropFirst_16 : decode cX5_dropFirst 16 = .ok (.getfield 9, 3) := by decide +kernel
theorem dX5_dropFirst_19 : decode cX5_dropFirst 19 = .ok (.iload_n 1, 1) := by decide +kernel
theorem dX5_dropFirst_20 : decode cX5_dropFirst 20 = .ok (.iaload, 1) := by decide +kernel
theorem dX5_dropFirst_21 : decode cX5_dropFirst 21 = .ok (.iastore, 1) := by decide +kernel
theorem dX5_dropFirst_22 : decode cX5_dropFirst 22 = .ok (.aload_n 0, 1) := by decide +kernel
theorem dX5_dropFirst_23 : decode cX5_dropFirst 23 = .ok (.getfield 13, 3) := by decide +kernel
theorem dX5_dropFirst_26 : decode cX5_dropFirst 26 = .ok (.iload_n 1, 1) := by decide +kernel
theorem dX5_dropFirst_27 : decode cX5_dropFirst 27 = .ok (.iconst 1, 1) := by decide +kernel
theorem dX5_dropFirst_28 : decode cX5_dropFirst 28 = .ok (.isub, 1) := by decide +kernel
theorem dX5_dropFirst_29 : decode cX5_dropFirst 29 = .ok (.aload_n 0, 1) := by decide +kernel
theorem dX5_dropFirst_30 : decode cX5_dropFirst 30 = .ok (.getfield 13, 3) := by decide +kernel
theorem dX5_dropFirst_33 : decode cX5_dropFirst 33 = .ok (.iload_n 1, 1) := by decide +kernel
theorem dX5_dropFirst_34 : decode cX5_dropFirst 34 = .ok (.iaload, 1) := by decide +kernel
theorem dX5_dropFirst_35 : decode cX5_dropFirst 35 = .ok (.iastore, 1) := by decide +kernel
theorem dX5_dropFirst_36 : decode cX5_dropFirst 36 = .ok (.iinc 1 1, 3) := by decide +kernel
theorem dX5_dropFirst_39 : decode cX5_dropFirst 39 = .ok (.goto (-37), 3) := by decide +kernel
theorem dX5_dropFirst_42 : decode cX5_dropFirst 42 = .ok (.aload_n 0, 1) := by decide +kernel
theorem dX5_dropFirst_43 : decode cX5_dropFirst 43 = .ok (.bipush 15, 2) := by decide +kernel
theorem dX5_dropFirst_45 : decode cX5_dropFirst 45 = .ok (.putfield 16, 3) := by decide +kernel
theorem dX5_dropFirst_48 : decode cX5_dropFirst 48 = .ok (.return_, 1) := by decide +kernel
theorem dX5_applyTo_0 : decode cX5_applyTo 0 = .ok (.iconst 0, 1) := by decide +kernel
theorem dX5_applyTo_1 : decode cX5_applyTo 1 = .ok (.istore_n 2, 1) := by decide +kernel
theorem dX5_applyTo_2 : decode cX5_applyTo 2 = .ok (.iload_n 2, 1) := by decide +kernel
theorem dX5_applyTo_3 : decode cX5_applyTo 3 = .ok (.aload_n 0, 1) := by decide +kernel
theorem dX5_applyTo_4 : decode cX5_applyTo 4 = .ok (.getfield 16, 3) := by decide +kernel
theorem dX5_applyTo_7 : decode cX5_applyTo 7 = .ok (.if_icmp .ge 25, 3) := by decide +kernel
theorem dX5_applyTo_10 : decode cX5_applyTo 10 = .ok (.aload_n 1, 1) := by decide +kernel
theorem dX5_applyTo_11 : decode cX5_applyTo 11 = .ok (.aload_n 0, 1) := by decide +kernel
theorem dX5_applyTo_12 : decode cX5_applyTo 12 = .ok (.getfield 9, 3) := by decide +kernel
theorem dX5_applyTo_15 : decode cX5_applyTo 15 = .ok (.iload_n 2, 1) := by decide +kernel
theorem dX5_applyTo_16 : decode cX5_applyTo 16 = .ok (.iaload, 1) := by decide +kernel
theorem dX5_applyTo_17 : decode cX5_applyTo 17 = .ok (.aload_n 0, 1) := by decide +kernel
theorem dX5_applyTo_18 : decode cX5_applyTo 18 = .ok (.getfield 13, 3) := by decide +kernel
theorem dX5_applyTo_21 : decode cX5_applyTo 21 = .ok (.iload_n 2, 1) := by decide +kernel
theorem dX5_applyTo_22 : decode cX5_applyTo 22 = .ok (.iaload, 1) := by decide +kernel
theorem dX5_applyTo_23 : decode cX5_applyTo 23 = .ok (.invokevirtual 23, 3) := by decide +kernel
theorem dX5_applyTo_26 : decode cX5_applyTo 26 = .ok (.iinc 2 1, 3) := by decide +kernel
theorem dX5_applyTo_29 : decode cX5_applyTo 29 = .ok (.goto (-27), 3) := by decide +kernel
theorem dX5_applyTo_32 : decode cX5_applyTo 32 = .ok (.aload_n 0, 1) := by decide +kernel
theorem dX5_applyTo_33 : decode cX5_applyTo 33 = .ok (.iconst 0, 1) := by decide +kernel
theorem dX5_applyTo_34 : decode cX5_applyTo 34 = .ok (.putfield 16, 3) := by decide +kernel
theorem dX5_applyTo_37 : decode cX5_applyTo 37 = .ok (.return_, 1) := by decide +kernel
set_option maxRecDepth 20000 in
theorem ggX5_add_X5_dropFirst : GoodIn wsX5_add wsX5_dropFirst := goodIn_r _ [8, 2, 3, 1, 9, 10, 11] (by decide +kernel) (by decide +kernel)
set_option maxRecDepth 20000 in
theorem gX5_add_X5_dropFirst : GoodIn wsX5_add (wsV RX5 20 RX5 yX5_dropFirst wsX5_dropFirst) := goodIn_app (goodIn_of _ (by decide +kernel)) ggX5_add_X5_dropFirst
set_option maxRecDepth 20000 in
theorem ggX5_applyTo_X3_flip : GoodIn wsX5_applyTo wsX3_flip := goodIn_r _ [8, 9, 10, 14, 15] (by decide +kernel) (by decide +kernel)
set_option maxRecDepth 20000 in
theorem gX5_applyTo_X3_flip : GoodIn wsX5_applyTo (wsV RX5 23 RX3 yX3_flip wsX3_flip) := goodIn_app (goodIn_of _ (by decide +kernel)) ggX5_applyTo_X3_flip
end
section
/-! ===== the store: the cells of the class, of the reference and of the lamps by ROLES (fixed numbers), their ints and longs ===== -/
abbrev St : Type := (Nat → Nat → Int32) × (Nat → Nat → Int64)
/-- kinds of roles: 1 LampLine 2 Row 3 int[] 4 Packet 5 Spoils 6 Search 7 long[] 8 Lamp[] 9 LampLineModel 10 byte[] 11 boolean[] 12 Lamp 13 Row[] -/
def kd0 : List Nat := [1, 2, 3, 2, 3, 2, 3, 2, 3, 4, 2, 3, 4, 2, 3, 4, 2, 3, 5, 3, 3, 6, 7, 7, 7, 8, 7, 9,
  3, 7, 3, 3, 3, 3, 11, 11, 3, 10, 3, 3, 3, 3, 3, 3, 10, 10, 10, 10, 10, 3, 3, 7, 7, 7]
def kd1 : List Nat := [12, 3, 2, 3, 13, 11, 2, 3, 2, 3, 2, 3]
def ln0 : List Nat := [0, 0, 520, 0, 513, 0, 257, 0, 257, 0, 0, 231, 0, 0, 231, 0, 0, 231, 0, 16, 16, 0, 64, 64, 24, 24, 1, 0,
  24, 24, 24, 24, 24, 24, 24, 24, 24, 768, 24, 12288, 24, 24, 96, 96, 3072, 520, 513, 300, 300, 16, 16, 128, 128, 24]
def ln1 : List Nat := [0, 512, 0, 32, 3, 3, 0, 32, 0, 32, 0, 32]
def kd (k : Nat) : Nat := if k < 54 then kd0.getD k 0 else kd1.getD ((k - 54) % 12) 0
def ln (k : Nat) : Nat := if k < 54 then ln0.getD k 0 else ln1.getD ((k - 54) % 12) 0
/-- the cell of role k, by its kind, its ints i, its longs j; g: the array classes (0 byte 1 int 2 long 3 boolean 4 Lamp 5 Row), ad: the addresses, n: how many lamps -/
def cK (g : Nat → ClassId) (ad : Nat → Nat) (n : Nat) (k : Nat) (i : Nat → Int32) (j : Nat → Int64) (κ : Nat) : va_E := match κ with
  | 1 => .inr (5, [.ref (ad 1), .ref (ad 3), .ref (ad 5), .ref (ad 7), .ref (ad 9), .ref (ad 12), .ref (ad 15), .ref (ad 18), .ref (ad 21), .ref (ad 25), .int (i 10), .int (i 11), .int (i 12)])
  | 2 => .inr (2, [.ref (ad (k + 1)), .int (i 1)])
  | 3 => .inl (g 1, ln k, .inl i)
  | 4 => .inr (1, [.long (j 0), .long (j 1), .int (i 2), .int (i 3), .int (i 4), .int (i 5), .int (i 6), .int (i 7), .ref (ad (k + 1))])
  | 5 => .inr (4, [.ref (ad 19), .ref (ad 20), .int (i 2)])
  | 6 => .inr (3, [.ref (ad 22), .ref (ad 23), .ref (ad 24), .int (i 3), .int (i 4), .int (i 5), .int (i 6)])
  | 7 => .inl (g 2, ln k, .inr (.inl j))
  | 8 => .inl (g 4, ln k, .inr (.inr (.inr (.inr (fun q => if q < n then some (ad (54 + 12 * q)) else none)))))
  | 9 => .inr (6, [.int (i 0), .int (i 1), .ref (ad 28), .ref (ad 29), .ref (ad 30), .ref (ad 31), .ref (ad 32), .ref (ad 33), .ref (ad 34), .ref (ad 35), .ref (ad 36), .ref (ad 37), .ref (ad 38), .ref (ad 39), .ref (ad 40), .ref (ad 41), .ref (ad 42), .ref (ad 43), .ref (ad 44), .ref (ad 45), .int (i 20), .int (i 21), .ref (ad 46), .int (i 23), .ref (ad 47), .int (i 25), .ref (ad 48), .int (i 27), .int (i 28), .ref (ad 49), .ref (ad 50), .int (i 31), .int (i 32), .int (i 33), .int (i 34), .ref (ad 51), .ref (ad 52), .int (i 37), .ref (ad 53)])
  | 10 => .inl (g 0, ln k, .inl i)
  | 11 => .inl (g 3, ln k, .inl i)
  | 12 => .inr (0, [.long (j 0), .int (i 1), .int (i 2), .ref (ad (k + 1)), .ref (ad (k + 2)), .ref (ad (k + 4)), .ref (ad (k + 5)), .int (i 7), .int (i 8), .int (i 9), .int (i 10), .int (i 11), .int (i 12), .int (i 13), .int (i 14)])
  | _ => .inl (g 5, ln k, .inr (.inr (.inr (.inr (fun q => some (ad (k + 2 + 2 * q)))))))
def cE (g : Nat → ClassId) (ad : Nat → Nat) (n : Nat) (k : Nat) (i : Nat → Int32) (j : Nat → Int64) : va_E := cK g ad n k i j (kd k)
theorem cE_k {g : Nat → ClassId} {ad : Nat → Nat} {n k κ : Nat} {i : Nat → Int32} {j : Nat → Int64} (h : kd k = κ) : cE g ad n k i j = cK g ad n k i j κ := by unfold cE; rw [h]
def tp (n : Nat) : Nat := 54 + 12 * n
def wl (g : Nat → ClassId) (ad : Nat → Nat) (n : Nat) (σ : St) : va_W := (List.range (tp n)).map (fun k => (ad k, cE g ad n k (σ.1 k) (σ.2 k)))
theorem wl_at {g : Nat → ClassId} {ad : Nat → Nat} {n : Nat} {σ : St} {k : Nat} {e : va_E} (hk : k < tp n) (hc : cE g ad n k (σ.1 k) (σ.2 k) = e) : (wl g ad n σ)[k]? = some (ad k, e) := by
  unfold wl
  rw [List.getElem?_map, List.getElem?_range hk]
  simp [hc]
theorem wl_set {g : Nat → ClassId} {ad : Nat → Nat} {n : Nat} {σ τ : St} {k : Nat} {e : va_E} (he : cE g ad n k (τ.1 k) (τ.2 k) = e) (hi : ∀ q, q ≠ k → τ.1 q = σ.1 q) (hj : ∀ q, q ≠ k → τ.2 q = σ.2 q) : (wl g ad n σ).set k (ad k, e) = wl g ad n τ := by
  apply List.ext_getElem?
  intro q
  by_cases hq : q = k
  · subst hq
    by_cases hl : q < tp n
    · rw [List.getElem?_set_self (by simpa [wl] using hl), wl_at (e := e) hl he]
    · rw [List.getElem?_eq_none (by simpa [wl] using hl), List.getElem?_eq_none (by simpa [wl] using hl)]
  · rw [List.getElem?_set_ne (fun h => hq h.symm)]
    unfold wl
    rw [List.getElem?_map, List.getElem?_map]
    by_cases hl : q < tp n
    · rw [List.getElem?_range hl]
      simp [hi q hq, hj q hq]
    · rw [List.getElem?_eq_none (by simpa using hl)]
      rfl
/-- an int, a long of a role -/
def sI (σ : St) (k j : Nat) (v : Int32) : St := (fun q => if q = k then upd (σ.1 k) j v else σ.1 q, σ.2)
def sJ (σ : St) (k j : Nat) (v : Int64) : St := (σ.1, fun q => if q = k then vp_updL (σ.2 k) j v else σ.2 q)
theorem sI_self (σ : St) (k j : Nat) (v : Int32) : (sI σ k j v).1 k = upd (σ.1 k) j v := by simp [sI]
theorem sJ_self (σ : St) (k j : Nat) (v : Int64) : (sJ σ k j v).2 k = vp_updL (σ.2 k) j v := by simp [sJ]
theorem wl_sI {g : Nat → ClassId} {ad : Nat → Nat} {n : Nat} {σ : St} {k j : Nat} {v : Int32} {e : va_E} (he : cE g ad n k (upd (σ.1 k) j v) (σ.2 k) = e) : (wl g ad n σ).set k (ad k, e) = wl g ad n (sI σ k j v) :=
  wl_set (by rw [sI_self]; exact he) (fun q h => by simp [sI, h]) (fun _ _ => rfl)
theorem wl_sJ {g : Nat → ClassId} {ad : Nat → Nat} {n : Nat} {σ : St} {k j : Nat} {v : Int64} {e : va_E} (he : cE g ad n k (σ.1 k) (vp_updL (σ.2 k) j v) = e) : (wl g ad n σ).set k (ad k, e) = wl g ad n (sJ σ k j v) :=
  wl_set (by rw [sJ_self]; exact he) (fun _ _ => rfl) (fun q h => by simp [sJ, h])
/-- the array classes as the tables have them -/
def tyL (g : Nat → ClassId) : List (ClassId × FieldType) := [(g 0, .byte), (g 1, .int), (g 2, .long), (g 3, .boolean), (g 4, .object "LampLine$Lamp"), (g 5, .object "LampLine$Row")]
/-- the list of matters, a static array that nobody writes -/
def mtT : List Int32 := [80, 96, 128, 130, 224, 240, 4096, 32]
def mtF (k : Nat) : Value := .int (mtT.getD k 0)
/-- the words on private fields and methods of nest mates -/
def nestW : List Cond := [.fieldLinkNest "LampLine" 139 "LampLine$Packet" "part" "I" "LampLine",
  .fieldLinkNest "LampLine" 142 "LampLine$Packet" "data" "LLampLine$Row;" "LampLine",
  .fieldLinkNest "LampLine" 151 "LampLine$Packet" "kind" "I" "LampLine",
  .fieldLinkNest "LampLine" 173 "LampLine$Lamp" "id" "J" "LampLine",
  .fieldLinkNest "LampLine" 189 "LampLine$Lamp" "text" "LLampLine$Row;" "LampLine",
  .fieldLinkNest "LampLine" 194 "LampLine$Lamp" "silent" "Z" "LampLine",
  .fieldLinkNest "LampLine" 210 "LampLine$Search" "depth" "I" "LampLine",
  .fieldLinkNest "LampLine" 213 "LampLine$Search" "begun" "Z" "LampLine",
  .fieldLinkNest "LampLine" 223 "LampLine$Search" "foundCount" "I" "LampLine",
  .fieldLinkNest "LampLine" 228 "LampLine$Search" "foundIds" "[J" "LampLine",
  .fieldLinkNest "LampLine" 232 "LampLine$Search" "steps" "I" "LampLine",
  .fieldLinkNest "LampLine" 257 "LampLine$Packet" "to" "J" "LampLine",
  .fieldLinkNest "LampLine" 278 "LampLine$Packet" "from" "J" "LampLine",
  .fieldLinkNest "LampLine" 281 "LampLine$Packet" "count" "I" "LampLine",
  .fieldLinkNest "LampLine" 284 "LampLine$Packet" "messages" "I" "LampLine",
  .fieldLinkNest "LampLine" 287 "LampLine$Packet" "group" "I" "LampLine",
  .fieldLinkNest "LampLine" 290 "LampLine$Packet" "matter" "I" "LampLine",
  .fieldLinkNest "LampLine$Lamp" 108 "LampLine$Packet" "group" "I" "LampLine",
  .fieldLinkNest "LampLine$Lamp" 125 "LampLine$Packet" "data" "LLampLine$Row;" "LampLine",
  .fieldLinkNest "LampLine$Lamp" 128 "LampLine$Packet" "matter" "I" "LampLine",
  .fieldLinkNest "LampLine$Lamp" 149 "LampLine$Packet" "messages" "I" "LampLine",
  .fieldLinkNest "LampLine$Lamp" 155 "LampLine$Packet" "part" "I" "LampLine",
  .fieldLinkNest "LampLine$Lamp" 187 "LampLine$Packet" "kind" "I" "LampLine",
  .methodLinkNest "LampLine" 29 ⟨"LampLine$Packet", "<init>", "()V"⟩ "LampLine",
  .methodLinkNest "LampLine" 42 ⟨"LampLine$Spoils", "<init>", "()V"⟩ "LampLine",
  .methodLinkNest "LampLine" 49 ⟨"LampLine$Search", "<init>", "()V"⟩ "LampLine",
  .methodLinkNest "LampLine$Lamp" 52 ⟨"LampLine", "makerOf", "(J)I"⟩ "LampLine",
  .methodLinkNest "LampLine$Lamp" 64 ⟨"LampLine", "flag", "(Z)I"⟩ "LampLine",
  .methodLinkNest "LampLine$Lamp" 101 ⟨"LampLine", "restOf", "(J)J"⟩ "LampLine",
  .methodLinkNest "LampLine$Lamp" 183 ⟨"LampLine", "fits", "(II)Z"⟩ "LampLine",
  .methodLinkNest "LampLine$Packet" 24 ⟨"LampLine", "restOf", "(J)J"⟩ "LampLine"]
def nestOk (w : Cond) : Bool := match w with
  | .fieldLinkNest _ _ _ _ _ _ => true
  | .methodLinkNest _ _ _ _ => true
  | _ => false
theorem nestW_ok : nestW.all nestOk = true := by decide +kernel
theorem nest_warm {w : Cond} (hw : nestOk w = true) {s U : State} (hW : s.WarmedH U.vm) (h : va_Nw w s) : va_Nw w U := by
  cases w <;> simp [nestOk] at hw
  · exact va_Nw.warmM hW h
  · exact va_Nw.warmF hW h
theorem nest_same {w : Cond} (hw : nestOk w = true) {u U : State} (hvm : u.vm = U.vm) (h : va_Nw w u) : va_Nw w U := by
  cases w <;> simp [nestOk] at hw
  · exact va_Nw.same rfl hvm h
  · exact va_Nw.same rfl hvm h
theorem nest_use {w : Cond} (hw : nestOk w = true) {A : Array Value} {U : State} (h : va_Nw w U) : w.before A U = true := by
  cases w <;> simp [nestOk] at hw
  · exact va_Nw.use rfl h
  · exact va_Nw.use rfl h
/-- what is known of the tables and of statics: at a start, and from any state behind it -/
def wK (G : va_G) (g : Nat → ClassId) (a0 aM : Nat) (U : State) : Prop := va_K G vwCl (tyL g) U ∧ va_Z "LampLine$Lamp" "MATTERS" "[I" (.ref aM) (fun q : Nat => a0 ≤ q) U U.heap ∧ va_T .int aM 8 mtF (fun q : Nat => a0 ≤ q) U U.heap ∧ ∀ w ∈ nestW, va_Nw w U
/-- the world: the store is on the heap, its cells are apart and lie from a0 on, nothing below a0 has changed since H0 -/
def Wd (G : va_G) (g : Nat → ClassId) (ad : Nat → Nat) (n : Nat) (a0 : Nat) (H0 : Heap) (σ : St) (H : Heap) (locs : List Loc) : Prop := va_P G vwCl (wl g ad n σ) H ∧ va_D (fun q : Nat => a0 ≤ q) (wl g ad n σ) ∧ va_S (fun q : Nat => a0 ≤ q) H0 H locs
/-- a contract's start and the world at its end -/
def wP (G : va_G) (g : Nat → ClassId) (ad : Nat → Nat) (n : Nat) (a0 aM : Nat) (σ : St) (U : State) : Prop := va_P G vwCl (wl g ad n σ) U.heap ∧ va_D (fun q : Nat => a0 ≤ q) (wl g ad n σ) ∧ wK G g a0 aM U
def wB (G : va_G) (g : Nat → ClassId) (ad : Nat → Nat) (n : Nat) (a0 : Nat) (u : St) (t : State) : Prop := va_P G vwCl (wl g ad n u) t.heap ∧ va_D (fun q : Nat => a0 ≤ q) (wl g ad n u)
theorem wK.moved {G : va_G} {g : Nat → ClassId} {a0 aM : Nat} {s U : State} {H : Heap} {locs : List Loc} (h : wK G g a0 aM s) (hW : s.WarmedH U.vm) (hS : va_S (fun q : Nat => a0 ≤ q) s.heap H locs) (hU : U.heap = H) : wK G g a0 aM U := by
  obtain ⟨h1, h2, h3, h4⟩ := h
  subst hU
  have hvm := hW.alike
  exact ⟨va_K.moved hvm h1, va_Z.moved hvm (va_Z.kept h2 (fun a h1 h2 => hS.2.1 a h1 h2)), va_T.moved hvm (va_T.kept h3 (fun a h1 h2 => hS.2.1 a h1 h2)), fun w hw => nest_warm (List.all_eq_true.mp nestW_ok w hw) hW (h4 w hw)⟩
theorem wK.nest {G : va_G} {g : Nat → ClassId} {a0 aM : Nat} {s : State} (h : wK G g a0 aM s) {w : Cond} (hw : w ∈ nestW) {A : Array Value} : w.before A s = true := nest_use (List.all_eq_true.mp nestW_ok w hw) (h.2.2.2 w hw)
theorem wP_blind {G : va_G} {g : Nat → ClassId} {ad : Nat → Nat} {n a0 aM : Nat} {σ : St} {av : List Value} : FrameBlind (va_Pc av (wP G g ad n a0 aM σ)) := fun a U f mk q => by
  obtain ⟨q0, q1, q2, q3, q4, q5, q6⟩ := q
  exact ⟨q0, q1, q2, va_K.moved (u := U) (U := U.calling f mk a) (Vm.Alike.refl U.vm) q3, va_Z.moved (u := U) (U := U.calling f mk a) (Vm.Alike.refl U.vm) q4, va_T.moved (u := U) (U := U.calling f mk a) (Vm.Alike.refl U.vm) q5, fun w hw => nest_same (u := U) (U := U.calling f mk a) (List.all_eq_true.mp nestW_ok w hw) rfl (q6 w hw)⟩
/-- what hangs on a row, a packet, a lamp -/
def isRow (r : Nat) : Prop := kd r = 2 ∧ kd (r + 1) = 3
def isPk (r : Nat) : Prop := kd r = 4 ∧ isRow (r + 1)
def isLp (r : Nat) : Prop := kd r = 12 ∧ kd (r + 1) = 3 ∧ isRow (r + 2) ∧ kd (r + 4) = 13 ∧ kd (r + 5) = 11 ∧ isRow (r + 6) ∧ isRow (r + 8) ∧ isRow (r + 10)
theorem isLp_at (i : Nat) : isLp (54 + 12 * i) := by
  have h : ∀ d, d < 12 → kd (54 + 12 * i + d) = kd1.getD d 0 := fun d hd => by
    unfold kd
    rw [if_neg (by omega)]
    congr 1
    omega
  exact ⟨h 0 (by decide), h 1 (by decide), ⟨h 2 (by decide), h 3 (by decide)⟩, h 4 (by decide), h 5 (by decide), ⟨h 6 (by decide), h 7 (by decide)⟩, ⟨h 8 (by decide), h 9 (by decide)⟩, ⟨h 10 (by decide), h 11 (by decide)⟩⟩
end
section
/-! ===== the machine's instructions over the store ===== -/
/-- a guard -/
def gd {α : Type} (b : Bool) (k : Option α) : Option α := if b = true then k else none
theorem gd_some {α : Type} {b : Bool} {k : Option α} {x : α} (h : gd b k = some x) : b = true ∧ k = some x := by
  unfold gd at h
  by_cases hb : b = true
  · rw [if_pos hb] at h; exact ⟨hb, h⟩
  · rw [if_neg hb] at h; cases h
theorem bd_some {α β : Type} {o : Option α} {k : α → Option β} {x : β} (h : o.bind k = some x) : ∃ y, o = some y ∧ k y = some x := by
  cases o with
  | none => cases h
  | some y => exact ⟨y, rfl, h⟩
/-- an index within, a number that is a boolean -/
def ib (i : Int32) (n : Nat) : Bool := !(decide (i < 0)) && decide (i.toNatClampNeg < n)
theorem ib_in {i : Int32} {n : Nat} (h : ib i n = true) : vp_in i n := by
  simp only [ib, Bool.and_eq_true, Bool.not_eq_true', decide_eq_false_iff_not, decide_eq_true_eq] at h
  intro q
  rcases q with q | q
  · exact h.1 q
  · omega
def zb (x : Int32) : Bool := decide (x = 0) || decide (x = 1)
theorem zb_nar {x : Int32} (h : zb x = true) : narrow .boolean (.int x) = .int x := by
  simp only [zb, Bool.or_eq_true, decide_eq_true_eq] at h
  rcases h with h | h <;> subst h <;> rfl
theorem zb_fit {x : Int32} (h : zb x = true) : fits .boolean (.int x) = true := by
  simp only [zb, Bool.or_eq_true, decide_eq_true_eq] at h
  rcases h with h | h <;> subst h <;> rfl
theorem tp_lt {n k : Nat} (h : k < 54) : k < tp n := by unfold tp; omega
section WR
variable {p : Program} {l : Launch} {e : Env} {R : Room} {s : State} {m : MethodId} {args : Array Value} {below : List Frame} {meth : Method} {c : Code} {H : Heap} {locs : List Loc} {cells slots : Nat} {Q : State → Prop}
variable {cc : ByteArray} {pc : Nat} {ls : Array Slot} {rest : List Value} {G : va_G} {g : Nat → ClassId} {ad : Nat → Nat} {n a0 aM : Nat} {σ : St} {H0 : Heap}
theorem r_get (hx : p.tables.exec = Jvm.exec) (hb : c.code = cc) {own C : String} {T : u_T} {N ci index : Nat} {Ts : List Cond} (hts : ∀ w ∈ Ts, w.before args s = true) (hin : ∀ w ∈ u_ws C T N, w ∈ Ts) (hown : s.vm.findClass own = some m.cls) (hK : wK G g a0 aM s) (hW : Wd G g ad n a0 H0 σ H locs) (k : Nat) (hk : k < tp n) {fs : List Value} (hc : cE g ad n k (σ.1 k) (σ.2 k) = .inr (ci, fs)) (hcl : vwCl[ci]? = some (C, T, N)) (j : Nat) (hj : j < N) (hlink : (Cond.fieldLink own index (T j).1 (T j).2.1 (T j).2.2.1).before args s = true) {v : Value} (hv : fs[j]? = some v) (hdg : decode cc pc = .ok (.getfield index, 3))
    (kk : W p l e R s m args below meth c H locs cells slots Q (F0 m (pc + 3) ls (v :: rest))) : W p l e R s m args below meth c H locs cells slots Q (F0 m pc ls (.ref (ad k) :: rest)) :=
  va_get hx hb hts hin hown hK.1 hW.1 k (wl_at hk hc) hcl j hj hlink (fun _ h => h) hv hdg kk
theorem r_getN (hx : p.tables.exec = Jvm.exec) (hb : c.code = cc) {own C host : String} {T : u_T} {N ci index : Nat} {Ts : List Cond} (hts : ∀ w ∈ Ts, w.before args s = true) (hin : ∀ w ∈ u_ws C T N, w ∈ Ts) (hown : s.vm.findClass own = some m.cls) (hK : wK G g a0 aM s) (hW : Wd G g ad n a0 H0 σ H locs) (k : Nat) (hk : k < tp n) {fs : List Value} (hc : cE g ad n k (σ.1 k) (σ.2 k) = .inr (ci, fs)) (hcl : vwCl[ci]? = some (C, T, N)) (j : Nat) (hj : j < N) (hlink : (Cond.fieldLinkNest own index (T j).1 (T j).2.1 (T j).2.2.1 host).before args s = true) {v : Value} (hv : fs[j]? = some v) (hdg : decode cc pc = .ok (.getfield index, 3))
    (kk : W p l e R s m args below meth c H locs cells slots Q (F0 m (pc + 3) ls (v :: rest))) : W p l e R s m args below meth c H locs cells slots Q (F0 m pc ls (.ref (ad k) :: rest)) :=
  va_getN hx hb hts hin hown hK.1 hW.1 k (wl_at hk hc) hcl j hj hlink (fun _ h => h) hv hdg kk
theorem r_putI (hx : p.tables.exec = Jvm.exec) (hb : c.code = cc) {own C : String} {T : u_T} {N ci index : Nat} {Ts : List Cond} (hts : ∀ w ∈ Ts, w.before args s = true) (hin : ∀ w ∈ u_ws C T N, w ∈ Ts) (ty0 : Nat → FieldType) (hty : ∀ k, k < N → parseFieldDescriptor (T k).2.2.1 = some (ty0 k)) (hnm : ∀ a, a < N → ∀ b, b < N → a ≠ b → (T a).2.1 ≠ (T b).2.1) (hown : s.vm.findClass own = some m.cls) (hK : wK G g a0 aM s) (hW : Wd G g ad n a0 H0 σ H locs) (k : Nat) (hk : k < tp n) {fs : List Value} (hc : cE g ad n k (σ.1 k) (σ.2 k) = .inr (ci, fs)) (hcl : vwCl[ci]? = some (C, T, N)) (j : Nat) (hj : j < N) {x : Int32} (hc2 : cE g ad n k (upd (σ.1 k) j x) (σ.2 k) = .inr (ci, fs.set j (.int x))) (hlink : (Cond.fieldLink own index (T j).1 (T j).2.1 (T j).2.2.1).before args s = true) (hfin : (T j).2.2.2 = false) {ty : FieldType} (hd : parseFieldDescriptor (T j).2.2.1 = some ty) (hn : narrow ty (.int x) = .int x) (hfit : fits ty (.int x) = true) (hl : j < fs.length) (hdg : decode cc pc = .ok (.putfield index, 3))
    (kk : ∀ (H : Heap) (locs : List Loc), Wd G g ad n a0 H0 (sI σ k j x) H locs → W p l e R s m args below meth c H locs cells slots Q (F0 m (pc + 3) ls rest)) : W p l e R s m args below meth c H locs cells slots Q (F0 m pc ls (.int x :: .ref (ad k) :: rest)) :=
  va_put hx hb hts hin ty0 hty hnm hown hK.1 hW.1 hW.2.1 hW.2.2 k (wl_at hk hc) hcl j hj hlink (fun _ h => h) hfin hd hn hfit hl hdg (fun H1 locs1 h1 h2 h3 => kk H1 locs1 ⟨by rw [← wl_sI hc2]; exact h1, by rw [← wl_sI hc2]; exact h2, h3⟩)
theorem r_putIN (hx : p.tables.exec = Jvm.exec) (hb : c.code = cc) {own C host : String} {T : u_T} {N ci index : Nat} {Ts : List Cond} (hts : ∀ w ∈ Ts, w.before args s = true) (hin : ∀ w ∈ u_ws C T N, w ∈ Ts) (ty0 : Nat → FieldType) (hty : ∀ k, k < N → parseFieldDescriptor (T k).2.2.1 = some (ty0 k)) (hnm : ∀ a, a < N → ∀ b, b < N → a ≠ b → (T a).2.1 ≠ (T b).2.1) (hown : s.vm.findClass own = some m.cls) (hK : wK G g a0 aM s) (hW : Wd G g ad n a0 H0 σ H locs) (k : Nat) (hk : k < tp n) {fs : List Value} (hc : cE g ad n k (σ.1 k) (σ.2 k) = .inr (ci, fs)) (hcl : vwCl[ci]? = some (C, T, N)) (j : Nat) (hj : j < N) {x : Int32} (hc2 : cE g ad n k (upd (σ.1 k) j x) (σ.2 k) = .inr (ci, fs.set j (.int x))) (hlink : (Cond.fieldLinkNest own index (T j).1 (T j).2.1 (T j).2.2.1 host).before args s = true) (hfin : (T j).2.2.2 = false) {ty : FieldType} (hd : parseFieldDescriptor (T j).2.2.1 = some ty) (hn : narrow ty (.int x) = .int x) (hfit : fits ty (.int x) = true) (hl : j < fs.length) (hdg : decode cc pc = .ok (.putfield index, 3))
    (kk : ∀ (H : Heap) (locs : List Loc), Wd G g ad n a0 H0 (sI σ k j x) H locs → W p l e R s m args below meth c H locs cells slots Q (F0 m (pc + 3) ls rest)) : W p l e R s m args below meth c H locs cells slots Q (F0 m pc ls (.int x :: .ref (ad k) :: rest)) :=
  va_putN hx hb hts hin ty0 hty hnm hown hK.1 hW.1 hW.2.1 hW.2.2 k (wl_at hk hc) hcl j hj hlink (fun _ h => h) hfin hd hn hfit hl hdg (fun H1 locs1 h1 h2 h3 => kk H1 locs1 ⟨by rw [← wl_sI hc2]; exact h1, by rw [← wl_sI hc2]; exact h2, h3⟩)
theorem r_putJ (hx : p.tables.exec = Jvm.exec) (hb : c.code = cc) {own C : String} {T : u_T} {N ci index : Nat} {Ts : List Cond} (hts : ∀ w ∈ Ts, w.before args s = true) (hin : ∀ w ∈ u_ws C T N, w ∈ Ts) (ty0 : Nat → FieldType) (hty : ∀ k, k < N → parseFieldDescriptor (T k).2.2.1 = some (ty0 k)) (hnm : ∀ a, a < N → ∀ b, b < N → a ≠ b → (T a).2.1 ≠ (T b).2.1) (hown : s.vm.findClass own = some m.cls) (hK : wK G g a0 aM s) (hW : Wd G g ad n a0 H0 σ H locs) (k : Nat) (hk : k < tp n) {fs : List Value} (hc : cE g ad n k (σ.1 k) (σ.2 k) = .inr (ci, fs)) (hcl : vwCl[ci]? = some (C, T, N)) (j : Nat) (hj : j < N) {x : Int64} (hc2 : cE g ad n k (σ.1 k) (vp_updL (σ.2 k) j x) = .inr (ci, fs.set j (.long x))) (hlink : (Cond.fieldLink own index (T j).1 (T j).2.1 (T j).2.2.1).before args s = true) (hfin : (T j).2.2.2 = false) (hd : parseFieldDescriptor (T j).2.2.1 = some .long) (hl : j < fs.length) (hdg : decode cc pc = .ok (.putfield index, 3))
    (kk : ∀ (H : Heap) (locs : List Loc), Wd G g ad n a0 H0 (sJ σ k j x) H locs → W p l e R s m args below meth c H locs cells slots Q (F0 m (pc + 3) ls rest)) : W p l e R s m args below meth c H locs cells slots Q (F0 m pc ls (.long x :: .ref (ad k) :: rest)) :=
  va_put hx hb hts hin ty0 hty hnm hown hK.1 hW.1 hW.2.1 hW.2.2 k (wl_at hk hc) hcl j hj hlink (fun _ h => h) hfin hd rfl rfl hl hdg (fun H1 locs1 h1 h2 h3 => kk H1 locs1 ⟨by rw [← wl_sJ hc2]; exact h1, by rw [← wl_sJ hc2]; exact h2, h3⟩)
theorem r_putJN (hx : p.tables.exec = Jvm.exec) (hb : c.code = cc) {own C host : String} {T : u_T} {N ci index : Nat} {Ts : List Cond} (hts : ∀ w ∈ Ts, w.before args s = true) (hin : ∀ w ∈ u_ws C T N, w ∈ Ts) (ty0 : Nat → FieldType) (hty : ∀ k, k < N → parseFieldDescriptor (T k).2.2.1 = some (ty0 k)) (hnm : ∀ a, a < N → ∀ b, b < N → a ≠ b → (T a).2.1 ≠ (T b).2.1) (hown : s.vm.findClass own = some m.cls) (hK : wK G g a0 aM s) (hW : Wd G g ad n a0 H0 σ H locs) (k : Nat) (hk : k < tp n) {fs : List Value} (hc : cE g ad n k (σ.1 k) (σ.2 k) = .inr (ci, fs)) (hcl : vwCl[ci]? = some (C, T, N)) (j : Nat) (hj : j < N) {x : Int64} (hc2 : cE g ad n k (σ.1 k) (vp_updL (σ.2 k) j x) = .inr (ci, fs.set j (.long x))) (hlink : (Cond.fieldLinkNest own index (T j).1 (T j).2.1 (T j).2.2.1 host).before args s = true) (hfin : (T j).2.2.2 = false) (hd : parseFieldDescriptor (T j).2.2.1 = some .long) (hl : j < fs.length) (hdg : decode cc pc = .ok (.putfield index, 3))
    (kk : ∀ (H : Heap) (locs : List Loc), Wd G g ad n a0 H0 (sJ σ k j x) H locs → W p l e R s m args below meth c H locs cells slots Q (F0 m (pc + 3) ls rest)) : W p l e R s m args below meth c H locs cells slots Q (F0 m pc ls (.long x :: .ref (ad k) :: rest)) :=
  va_putN hx hb hts hin ty0 hty hnm hown hK.1 hW.1 hW.2.1 hW.2.2 k (wl_at hk hc) hcl j hj hlink (fun _ h => h) hfin hd rfl rfl hl hdg (fun H1 locs1 h1 h2 h3 => kk H1 locs1 ⟨by rw [← wl_sJ hc2]; exact h1, by rw [← wl_sJ hc2]; exact h2, h3⟩)
theorem r_iald (hx : p.tables.exec = Jvm.exec) (hb : c.code = cc) (hK : wK G g a0 aM s) (hW : Wd G g ad n a0 H0 σ H locs) (k : Nat) (hk : k < tp n) (hr : kd k = 3) {i : Int32} (hi : ib i (ln k) = true) (hdg : decode cc pc = .ok (.iaload, 1))
    (kk : W p l e R s m args below meth c H locs cells slots Q (F0 m (pc + 1) ls (.int (σ.1 k i.toNatClampNeg) :: rest))) : W p l e R s m args below meth c H locs cells slots Q (F0 m pc ls (.int i :: .ref (ad k) :: rest)) :=
  va_iald hx hb hK.1 hW.1 k 1 (wl_at hk (cE_k hr)) rfl (ib_in hi) hdg kk
theorem r_bald (hx : p.tables.exec = Jvm.exec) (hb : c.code = cc) (hK : wK G g a0 aM s) (hW : Wd G g ad n a0 H0 σ H locs) (k : Nat) (hk : k < tp n) (hr : kd k = 10) {i : Int32} (hi : ib i (ln k) = true) (hdg : decode cc pc = .ok (.baload, 1))
    (kk : W p l e R s m args below meth c H locs cells slots Q (F0 m (pc + 1) ls (.int (σ.1 k i.toNatClampNeg) :: rest))) : W p l e R s m args below meth c H locs cells slots Q (F0 m pc ls (.int i :: .ref (ad k) :: rest)) :=
  va_bald hx hb hK.1 hW.1 k 0 (wl_at hk (cE_k hr)) rfl (ib_in hi) hdg kk
theorem r_zald (hx : p.tables.exec = Jvm.exec) (hb : c.code = cc) (hK : wK G g a0 aM s) (hW : Wd G g ad n a0 H0 σ H locs) (k : Nat) (hk : k < tp n) (hr : kd k = 11) {i : Int32} (hi : ib i (ln k) = true) (hdg : decode cc pc = .ok (.baload, 1))
    (kk : W p l e R s m args below meth c H locs cells slots Q (F0 m (pc + 1) ls (.int (σ.1 k i.toNatClampNeg) :: rest))) : W p l e R s m args below meth c H locs cells slots Q (F0 m pc ls (.int i :: .ref (ad k) :: rest)) :=
  va_zald hx hb hK.1 hW.1 k 3 (wl_at hk (cE_k hr)) rfl (ib_in hi) hdg kk
theorem r_lald (hx : p.tables.exec = Jvm.exec) (hb : c.code = cc) (hK : wK G g a0 aM s) (hW : Wd G g ad n a0 H0 σ H locs) (k : Nat) (hk : k < tp n) (hr : kd k = 7) {i : Int32} (hi : ib i (ln k) = true) (hdg : decode cc pc = .ok (.laload, 1))
    (kk : W p l e R s m args below meth c H locs cells slots Q (F0 m (pc + 1) ls (.long (σ.2 k i.toNatClampNeg) :: rest))) : W p l e R s m args below meth c H locs cells slots Q (F0 m pc ls (.int i :: .ref (ad k) :: rest)) :=
  va_lald hx hb hK.1 hW.1 k 2 (wl_at hk (cE_k hr)) rfl (ib_in hi) hdg kk
theorem r_iast (hx : p.tables.exec = Jvm.exec) (hb : c.code = cc) (hK : wK G g a0 aM s) (hW : Wd G g ad n a0 H0 σ H locs) (k : Nat) (hk : k < tp n) (hr : kd k = 3) {i x : Int32} (hi : ib i (ln k) = true) (hdg : decode cc pc = .ok (.iastore, 1))
    (kk : ∀ (H : Heap) (locs : List Loc), Wd G g ad n a0 H0 (sI σ k i.toNatClampNeg x) H locs → W p l e R s m args below meth c H locs cells slots Q (F0 m (pc + 1) ls rest)) : W p l e R s m args below meth c H locs cells slots Q (F0 m pc ls (.int x :: .int i :: .ref (ad k) :: rest)) :=
  va_iast hx hb hK.1 hW.1 hW.2.1 hW.2.2 k 1 (wl_at hk (cE_k hr)) rfl (ib_in hi) hdg (fun H1 locs1 h1 h2 h3 => kk H1 locs1 ⟨by rw [← wl_sI (cE_k hr)]; exact h1, by rw [← wl_sI (cE_k hr)]; exact h2, h3⟩)
theorem r_bast (hx : p.tables.exec = Jvm.exec) (hb : c.code = cc) (hK : wK G g a0 aM s) (hW : Wd G g ad n a0 H0 σ H locs) (k : Nat) (hk : k < tp n) (hr : kd k = 10) {i x : Int32} (hi : ib i (ln k) = true) (hdg : decode cc pc = .ok (.bastore, 1))
    (kk : ∀ (H : Heap) (locs : List Loc), Wd G g ad n a0 H0 (sI σ k i.toNatClampNeg (vp_nar .byte x)) H locs → W p l e R s m args below meth c H locs cells slots Q (F0 m (pc + 1) ls rest)) : W p l e R s m args below meth c H locs cells slots Q (F0 m pc ls (.int x :: .int i :: .ref (ad k) :: rest)) :=
  va_bast hx hb hK.1 hW.1 hW.2.1 hW.2.2 k 0 (wl_at hk (cE_k hr)) rfl (ib_in hi) hdg (fun H1 locs1 h1 h2 h3 => kk H1 locs1 ⟨by rw [← wl_sI (cE_k hr)]; exact h1, by rw [← wl_sI (cE_k hr)]; exact h2, h3⟩)
theorem r_zast (hx : p.tables.exec = Jvm.exec) (hb : c.code = cc) (hK : wK G g a0 aM s) (hW : Wd G g ad n a0 H0 σ H locs) (k : Nat) (hk : k < tp n) (hr : kd k = 11) {i x : Int32} (hi : ib i (ln k) = true) (hdg : decode cc pc = .ok (.bastore, 1))
    (kk : ∀ (H : Heap) (locs : List Loc), Wd G g ad n a0 H0 (sI σ k i.toNatClampNeg (vp_nar .boolean x)) H locs → W p l e R s m args below meth c H locs cells slots Q (F0 m (pc + 1) ls rest)) : W p l e R s m args below meth c H locs cells slots Q (F0 m pc ls (.int x :: .int i :: .ref (ad k) :: rest)) :=
  va_zast hx hb hK.1 hW.1 hW.2.1 hW.2.2 k 3 (wl_at hk (cE_k hr)) rfl (ib_in hi) hdg (fun H1 locs1 h1 h2 h3 => kk H1 locs1 ⟨by rw [← wl_sI (cE_k hr)]; exact h1, by rw [← wl_sI (cE_k hr)]; exact h2, h3⟩)
theorem r_last (hx : p.tables.exec = Jvm.exec) (hb : c.code = cc) (hK : wK G g a0 aM s) (hW : Wd G g ad n a0 H0 σ H locs) (k : Nat) (hk : k < tp n) (hr : kd k = 7) {i : Int32} {x : Int64} (hi : ib i (ln k) = true) (hdg : decode cc pc = .ok (.lastore, 1))
    (kk : ∀ (H : Heap) (locs : List Loc), Wd G g ad n a0 H0 (sJ σ k i.toNatClampNeg x) H locs → W p l e R s m args below meth c H locs cells slots Q (F0 m (pc + 1) ls rest)) : W p l e R s m args below meth c H locs cells slots Q (F0 m pc ls (.long x :: .int i :: .ref (ad k) :: rest)) :=
  va_last hx hb hK.1 hW.1 hW.2.1 hW.2.2 k 2 (wl_at hk (cE_k hr)) rfl (ib_in hi) hdg (fun H1 locs1 h1 h2 h3 => kk H1 locs1 ⟨by rw [← wl_sJ (cE_k hr)]; exact h1, by rw [← wl_sJ (cE_k hr)]; exact h2, h3⟩)
theorem r_ilen (hx : p.tables.exec = Jvm.exec) (hb : c.code = cc) (hK : wK G g a0 aM s) (hW : Wd G g ad n a0 H0 σ H locs) (k : Nat) (hk : k < tp n) (hr : kd k = 3) (hdg : decode cc pc = .ok (.arraylength, 1))
    (kk : W p l e R s m args below meth c H locs cells slots Q (F0 m (pc + 1) ls (.int (Int32.ofNat (ln k)) :: rest))) : W p l e R s m args below meth c H locs cells slots Q (F0 m pc ls (.ref (ad k) :: rest)) :=
  va_alen hx hb hK.1 hW.1 k 1 (wl_at hk (cE_k hr)) rfl rfl hdg kk
/-- an element of the row of lamps -/
theorem r_lamp (hx : p.tables.exec = Jvm.exec) (hb : c.code = cc) (hK : wK G g a0 aM s) (hW : Wd G g ad n a0 H0 σ H locs) {i : Int32} (hi : ib i 24 = true) (hn : i.toNatClampNeg < n) (hdg : decode cc pc = .ok (.aaload, 1))
    (kk : W p l e R s m args below meth c H locs cells slots Q (F0 m (pc + 1) ls (.ref (ad (54 + 12 * i.toNatClampNeg)) :: rest))) : W p l e R s m args below meth c H locs cells slots Q (F0 m pc ls (.int i :: .ref (ad 25) :: rest)) := by
  refine va_aldq hx hb hK.1 hW.1 25 4 (wl_at (tp_lt (by decide)) (cE_k (k := 25) (κ := 8) rfl)) rfl (ib_in hi) hdg ?_
  rw [if_pos hn]
  exact kk
/-- an element of a lamp's row of texts -/
theorem r_later (hx : p.tables.exec = Jvm.exec) (hb : c.code = cc) (hK : wK G g a0 aM s) (hW : Wd G g ad n a0 H0 σ H locs) (k : Nat) (hk : k < tp n) (hr : kd k = 13) {i : Int32} (hi : ib i (ln k) = true) (hdg : decode cc pc = .ok (.aaload, 1))
    (kk : W p l e R s m args below meth c H locs cells slots Q (F0 m (pc + 1) ls (.ref (ad (k + 2 + 2 * i.toNatClampNeg)) :: rest))) : W p l e R s m args below meth c H locs cells slots Q (F0 m pc ls (.int i :: .ref (ad k) :: rest)) :=
  va_aldq hx hb hK.1 hW.1 k 5 (wl_at hk (cE_k hr)) rfl (ib_in hi) hdg kk
end WR
section WE
variable {p : Program} {l : Launch} {e : Env} {R : Room} {s : State} {m : MethodId} {args : Array Value} {below : List Frame} {meth : Method} {c : Code} {H : Heap} {locs : List Loc} {cells slots : Nat}
variable {cc : ByteArray} {pc : Nat} {ls : Array Slot} {G : va_G} {g : Nat → ClassId} {ad : Nat → Nat} {n a0 aM : Nat} {σ : St}
/-- a method's ends: its answer and store are those that its function has -/
def qI (G : va_G) (g : Nat → ClassId) (ad : Nat → Nat) (n : Nat) (a0 : Nat) (x : St × Int32) : Array Value → State → Outcome → State → Prop := va_Qi (fun r u => (u, r) = x) (wB G g ad n a0) (fun q : Nat => a0 ≤ q)
def qJ (G : va_G) (g : Nat → ClassId) (ad : Nat → Nat) (n : Nat) (a0 : Nat) (x : St × Int64) : Array Value → State → Outcome → State → Prop := va_Ql (fun r u => (u, r) = x) (wB G g ad n a0) (fun q : Nat => a0 ≤ q)
def qV (G : va_G) (g : Nat → ClassId) (ad : Nat → Nat) (n : Nat) (a0 : Nat) (x : St) : Array Value → State → Outcome → State → Prop := va_Qv (fun u => u = x) (wB G g ad n a0) (fun q : Nat => a0 ≤ q)
theorem r_iret (hx : p.tables.exec = Jvm.exec) (hb : c.code = cc) (hr : meth.sig.returnType = some .int) (hlocks : meth.locks = false) (hW : Wd G g ad n a0 s.heap σ H locs) {v : Int32} {x : St × Int32} (hF : some (σ, v) = some x) (hdg : decode cc pc = .ok (.ireturn, 1)) : W p l e R s m args below meth c H locs cells slots (MQ below (qI G g ad n a0 x) args s cells slots (fun q : Nat => a0 ≤ q)) (F0 m pc ls [.int v]) :=
  W.iret hx hb hr (fun t ht _ => ⟨⟨v, σ, rfl, Option.some.inj hF, by rw [ht]; exact hW.1, hW.2.1⟩, hW.2.2.F ht⟩) hW.2.2.2.2 hdg hlocks
theorem r_zret (hx : p.tables.exec = Jvm.exec) (hb : c.code = cc) (hr : meth.sig.returnType = some .boolean) (hlocks : meth.locks = false) (hW : Wd G g ad n a0 s.heap σ H locs) {v : Int32} (hz : zb v = true) {x : St × Int32} (hF : some (σ, v) = some x) (hdg : decode cc pc = .ok (.ireturn, 1)) : W p l e R s m args below meth c H locs cells slots (MQ below (qI G g ad n a0 x) args s cells slots (fun q : Nat => a0 ≤ q)) (F0 m pc ls [.int v]) :=
  W.zret hx hb hr (zb_nar hz) (fun t ht _ => ⟨⟨v, σ, rfl, Option.some.inj hF, by rw [ht]; exact hW.1, hW.2.1⟩, hW.2.2.F ht⟩) hW.2.2.2.2 hdg hlocks
theorem r_lret (hx : p.tables.exec = Jvm.exec) (hb : c.code = cc) (hr : meth.sig.returnType = some .long) (hlocks : meth.locks = false) (hW : Wd G g ad n a0 s.heap σ H locs) {v : Int64} {x : St × Int64} (hF : some (σ, v) = some x) (hdg : decode cc pc = .ok (.lreturn, 1)) : W p l e R s m args below meth c H locs cells slots (MQ below (qJ G g ad n a0 x) args s cells slots (fun q : Nat => a0 ≤ q)) (F0 m pc ls [.long v]) :=
  W.lret hx hb hr (fun t ht _ => ⟨⟨v, σ, rfl, Option.some.inj hF, by rw [ht]; exact hW.1, hW.2.1⟩, hW.2.2.F ht⟩) hW.2.2.2.2 hdg hlocks
theorem r_vret (hx : p.tables.exec = Jvm.exec) (hb : c.code = cc) (hr : meth.sig.returnType = none) (hlocks : meth.locks = false) (hW : Wd G g ad n a0 s.heap σ H locs) {x : St} (hF : some σ = some x) (hdg : decode cc pc = .ok (.return_, 1)) : W p l e R s m args below meth c H locs cells slots (MQ below (qV G g ad n a0 x) args s cells slots (fun q : Nat => a0 ≤ q)) (F0 m pc ls []) :=
  W.vret hx hb hr (fun t ht _ => ⟨⟨σ, rfl, Option.some.inj hF, by rw [ht]; exact hW.1, hW.2.1⟩, hW.2.2.F ht⟩) hW.2.2.2.2 hdg hlocks
end WE
section WC
variable {p : Program} {l : Launch} {e : Env} {R : Room} {s : State} {m : MethodId} {args : Array Value} {below : List Frame} {meth : Method} {c : Code} {H : Heap} {locs : List Loc} {cells slots : Nat} {Q : State → Prop}
variable {cc : ByteArray} {pc : Nat} {ls : Array Slot} {st0 rest : List Value} {G : va_G} {g : Nat → ClassId} {ad : Nat → Nat} {n a0 aM : Nat} {σ : St} {free : Addr → Prop} {a : Array Value}
/-- behind a call: the store is that of the callee's function -/
theorem r_bi {x : St × Int32} (hr : va_Run p l e R s m args below meth c H locs cells slots 0 0 (F0 m pc ls st0) rest (qI G g ad n a0 x a) (fun q : Nat => a0 ≤ q)) (hW : Wd G g ad n a0 s.heap σ H locs)
    (kk : ∀ (H : Heap) (locs : List Loc), Wd G g ad n a0 s.heap x.1 H locs → W p l e R s m args below meth c H locs cells slots Q (F0 m (pc + 3) ls (.int x.2 :: rest))) : W p l e R s m args below meth c H locs cells slots Q (F0 m pc ls st0) :=
  va_calli hr hW.2.2 (fun _ _ h => h) (fun _ h => h) (fun r u t H1 locs1 ht _ hp hB _ _ hS => by
    subst hp; subst ht
    exact kk t.heap locs1 ⟨hB.1, hB.2, hS⟩)
theorem r_bl {x : St × Int64} (hr : va_Run p l e R s m args below meth c H locs cells slots 0 0 (F0 m pc ls st0) rest (qJ G g ad n a0 x a) (fun q : Nat => a0 ≤ q)) (hW : Wd G g ad n a0 s.heap σ H locs)
    (kk : ∀ (H : Heap) (locs : List Loc), Wd G g ad n a0 s.heap x.1 H locs → W p l e R s m args below meth c H locs cells slots Q (F0 m (pc + 3) ls (.long x.2 :: rest))) : W p l e R s m args below meth c H locs cells slots Q (F0 m pc ls st0) :=
  va_calll hr hW.2.2 (fun _ _ h => h) (fun _ h => h) (fun r u t H1 locs1 ht _ hp hB _ _ hS => by
    subst hp; subst ht
    exact kk t.heap locs1 ⟨hB.1, hB.2, hS⟩)
theorem r_bv {x : St} (hr : va_Run p l e R s m args below meth c H locs cells slots 0 0 (F0 m pc ls st0) rest (qV G g ad n a0 x a) (fun q : Nat => a0 ≤ q)) (hW : Wd G g ad n a0 s.heap σ H locs)
    (kk : ∀ (H : Heap) (locs : List Loc), Wd G g ad n a0 s.heap x H locs → W p l e R s m args below meth c H locs cells slots Q (F0 m (pc + 3) ls rest)) : W p l e R s m args below meth c H locs cells slots Q (F0 m pc ls st0) :=
  va_callv hr hW.2.2 (fun _ _ h => h) (fun _ h => h) (fun u t H1 locs1 ht _ hp hB _ _ hS => by
    subst hp; subst ht
    exact kk t.heap locs1 ⟨hB.1, hB.2, hS⟩)
/-- ahead of a call: the callee's start -/
theorem r_pre (hK : wK G g a0 aM s) (hW : Wd G g ad n a0 s.heap σ H locs) (As : List Value) : PreS s H (va_Pc As (wP G g ad n a0 aM σ)) As :=
  ⟨wP_blind, fun U hU hw => ⟨rfl, by rw [hU]; exact hW.1, hW.2.1, hK.moved hw hW.2.2 hU⟩⟩
theorem r_preV (hK : wK G g a0 aM s) (hW : Wd G g ad n a0 s.heap σ H locs) (k : Nat) (hk : k < tp n) {ci : Nat} {fs : List Value} {q : vw_C} (hc : cE g ad n k (σ.1 k) (σ.2 k) = .inr (ci, fs)) (hcl : vwCl[ci]? = some q) (As : List Value) : PreV s H q.1 (ad k) (va_Pc (.ref (ad k) :: As) (wP G g ad n a0 aM σ)) As :=
  ⟨wP_blind, va_recv hK.1 hW.1 hcl (wl_at hk hc), fun U hU hw => ⟨rfl, by rw [hU]; exact hW.1, hW.2.1, hK.moved hw hW.2.2 hU⟩⟩
end WC
end
section
/-! ===== what the written functions and walks use ===== -/
/-- more rounds than any loop makes -/
def fu : Nat := 4096
theorem isLp_row {q : Nat} {i : Int32} (h : isLp q) (hi : ib i (ln (q + 4)) = true) (hq : ln (q + 4) = 3) : isRow (q + 4 + 2 + 2 * (Int32.toNatClampNeg i)) := by
  simp only [ib, hq, Bool.and_eq_true, Bool.not_eq_true', decide_eq_false_iff_not, decide_eq_true_eq] at hi
  obtain ⟨-, -, -, -, -, h6, h8, h10⟩ := h
  rcases (show Int32.toNatClampNeg i = 0 ∨ Int32.toNatClampNeg i = 1 ∨ Int32.toNatClampNeg i = 2 by omega) with e | e | e <;> rw [e]
  · exact h6
  · exact h8
  · exact h10
end
section
def F_X3_size (r0 : Nat) (σ : St) : Option (St × Int32) := some (σ, (σ.1 (r0) 1))
set_option maxHeartbeats 4000000 in
set_option maxRecDepth 100000 in
theorem m_X3_size (l : Launch) (G : va_G) (g : Nat → ClassId) (ad : Nat → Nat) (n a0 aM : Nat) (r0 : Nat) (σ : St) (x : St × Int32) (hr0 : isRow r0) (tr0 : r0 + 1 < tp n) (hF : F_X3_size r0 σ = some x) : Met l yX3_size wsX3_size ({ frames := 0, cells := 0, slots := 0, locals := 0 } : Room) (va_Pc [.ref (ad (r0))] (wP G g ad n a0 aM σ)) (qI G g ad n a0 x) 0 0 (fun q : Nat => a0 ≤ q) := by
  refine Met.ofW (cc := cX3_size) (maxL := 1) (ret := (some .int)) (by decide) rfl ?_
  intro p e s m args below meth c s₁ B hml hv
  obtain ⟨rfl, hP, hD, hK⟩ := hv
  have hx := B.exec
  have hb := B.bytes
  have hr := B.returns
  have hts := atoms_spec (ws := wsX3_size) B.pre
  have hown : s.vm.findClass RX3 = some m.cls := findClass_of_methodNamed B.named
  have hlocks := B.notSynchronized
  have hW : Wd G g ad n a0 s.heap σ s.heap [] := ⟨hP, hD, va_S.rf⟩
  clear hP hD
  have hl := lv_entry ([.ref (ad (r0))]) (n := 1) (Nat.le_of_ble_eq_true rfl)
  rw [lg_entry_eq]
  generalize (lg_sl ([.ref (ad (r0))]) ++ List.replicate (1 - (lg_sl ([.ref (ad (r0))])).length) Slot.unset).toArray = ls at hl ⊢
  have hl : lv_has ls 1 [(0, .ref (ad (r0)))] := hl
  unfold F_X3_size at hF
  refine lv_aload_n hx hb dX3_size_0 rfl (lv_at hl 0 rfl) ?_
  refine r_get (C := RX3) (T := TX3) (N := 2) hx hb hts (by decide +kernel) hown hK hW (r0) (by omega) (cE_k hr0.1) rfl 1 (by decide) (hts (.fieldLink RX3 13 "LampLine$Row" "size" "I") (by decide +kernel)) rfl dX3_size_1 ?_
  exact r_iret hx hb hr hlocks hW hF dX3_size_4
def F_X3_at (r0 : Nat) (σ : St) (x1 : Int32) : Option (St × Int32) := if x1 < 0 then some (σ, 0) else if (σ.1 (r0) 1) ≤ x1 then some (σ, 0) else gd (ib x1 (ln (r0 + 1))) (some (σ, (σ.1 (r0 + 1) (Int32.toNatClampNeg x1))))
set_option maxHeartbeats 4000000 in
set_option maxRecDepth 100000 in
theorem m_X3_at (l : Launch) (G : va_G) (g : Nat → ClassId) (ad : Nat → Nat) (n a0 aM : Nat) (r0 : Nat) (σ : St) (x1 : Int32) (x : St × Int32) (hr0 : isRow r0) (tr0 : r0 + 1 < tp n) (hF : F_X3_at r0 σ x1 = some x) : Met l yX3_at wsX3_at ({ frames := 0, cells := 0, slots := 0, locals := 0 } : Room) (va_Pc [.ref (ad (r0)), .int x1] (wP G g ad n a0 aM σ)) (qI G g ad n a0 x) 0 0 (fun q : Nat => a0 ≤ q) := by
  refine Met.ofW (cc := cX3_at) (maxL := 2) (ret := (some .int)) (by decide) rfl ?_
  intro p e s m args below meth c s₁ B hml hv
  obtain ⟨rfl, hP, hD, hK⟩ := hv
  have hx := B.exec
  have hb := B.bytes
  have hr := B.returns
  have hts := atoms_spec (ws := wsX3_at) B.pre
  have hown : s.vm.findClass RX3 = some m.cls := findClass_of_methodNamed B.named
  have hlocks := B.notSynchronized
  have hW : Wd G g ad n a0 s.heap σ s.heap [] := ⟨hP, hD, va_S.rf⟩
  clear hP hD
  have hl := lv_entry ([.ref (ad (r0)), .int x1]) (n := 2) (Nat.le_of_ble_eq_true rfl)
  rw [lg_entry_eq]
  generalize (lg_sl ([.ref (ad (r0)), .int x1]) ++ List.replicate (2 - (lg_sl ([.ref (ad (r0)), .int x1])).length) Slot.unset).toArray = ls at hl ⊢
  have hl : lv_has ls 2 [(0, .ref (ad (r0))), (1, .int x1)] := hl
  unfold F_X3_at at hF
  refine lv_iload_n hx hb dX3_at_0 rfl (lv_at hl 1 rfl) ?_
  refine lv_if_lt (tgt := 21) hx hb dX3_at_1 (by decide) (fun hc2 => ?_) (fun hc2 => ?_)
  · replace hF := (if_pos hc2).symm.trans hF
    refine lv_iconst (v := 0) hx hb dX3_at_21 (by decide) ?_
    exact r_iret hx hb hr hlocks hW hF dX3_at_22
  · replace hF := (if_neg hc2).symm.trans hF
    refine lv_iload_n hx hb dX3_at_4 rfl (lv_at hl 1 rfl) ?_
    refine lv_aload_n hx hb dX3_at_5 rfl (lv_at hl 0 rfl) ?_
    refine r_get (C := RX3) (T := TX3) (N := 2) hx hb hts (by decide +kernel) hown hK hW (r0) (by omega) (cE_k hr0.1) rfl 1 (by decide) (hts (.fieldLink RX3 13 "LampLine$Row" "size" "I") (by decide +kernel)) rfl dX3_at_6 ?_
    refine lv_icmp_ge (tgt := 21) hx hb dX3_at_9 (by decide) (fun hc3 => ?_) (fun hc3 => ?_)
    · replace hF := (if_pos hc3).symm.trans hF
      refine lv_iconst (v := 0) hx hb dX3_at_21 (by decide) ?_
      exact r_iret hx hb hr hlocks hW hF dX3_at_22
    · replace hF := (if_neg hc3).symm.trans hF
      refine lv_aload_n hx hb dX3_at_12 rfl (lv_at hl 0 rfl) ?_
      refine r_get (C := RX3) (T := TX3) (N := 2) hx hb hts (by decide +kernel) hown hK hW (r0) (by omega) (cE_k hr0.1) rfl 0 (by decide) (hts (.fieldLink RX3 7 "LampLine$Row" "cells" "[I") (by decide +kernel)) rfl dX3_at_13 ?_
      refine lv_iload_n hx hb dX3_at_16 rfl (lv_at hl 1 rfl) ?_
      obtain ⟨hg4, hF⟩ := gd_some hF
      refine r_iald hx hb hK hW (r0 + 1) (by omega) hr0.2 hg4 dX3_at_17 ?_
      refine lv_goto (tgt := 22) hx hb dX3_at_18 (by decide) ?_
      exact r_iret hx hb hr hlocks hW hF dX3_at_22
def F_X3_number_L32 (r0 : Nat) (σ : St) (u3 : Int64) : Option (St × Int64) := some (σ, u3)
def F_X3_number_L5 (r0 : Nat) (K32 : St → Int64 → Option (St × Int64)) : Nat → St → Int32 → Int32 → Int64 → Int32 → Option (St × Int64)
  | 0, _, _, _, _, _ => none
  | fz + 1, σ, u1, u2, u3, u5 => if (u1 + u2) ≤ u5 then K32 σ u3 else (F_X3_at (r0) σ u5).bind (fun y3 => F_X3_number_L5 r0 K32 fz y3.1 u1 u2 ((u3 <<< ((Int32.toInt64 8) &&& 63)) ||| (Int32.toInt64 y3.2)) (u5 + 1))
def F_X3_number (r0 : Nat) (σ : St) (x1 : Int32) (x2 : Int32) : Option (St × Int64) := F_X3_number_L5 r0 (F_X3_number_L32 r0) fu σ x1 x2 0 x1
set_option maxHeartbeats 4000000 in
set_option maxRecDepth 100000 in
theorem m_X3_number (l : Launch) (G : va_G) (g : Nat → ClassId) (ad : Nat → Nat) (n a0 aM : Nat) (r0 : Nat) (σ : St) (x1 : Int32) (x2 : Int32) (x : St × Int64) (hr0 : isRow r0) (tr0 : r0 + 1 < tp n) (hF : F_X3_number r0 σ x1 x2 = some x) : Met l yX3_number wsX3_number ({ frames := 1, cells := 0, slots := 0, locals := 21 } : Room) (va_Pc [.ref (ad (r0)), .int x1, .int x2] (wP G g ad n a0 aM σ)) (qJ G g ad n a0 x) 0 0 (fun q : Nat => a0 ≤ q) := by
  refine Met.ofW (cc := cX3_number) (maxL := 6) (ret := (some .long)) (by decide) rfl ?_
  intro p e s m args below meth c s₁ B hml hv
  obtain ⟨rfl, hP, hD, hK⟩ := hv
  have hx := B.exec
  have hb := B.bytes
  have hr := B.returns
  have hts := atoms_spec (ws := wsX3_number) B.pre
  have hown : s.vm.findClass RX3 = some m.cls := findClass_of_methodNamed B.named
  have hlocks := B.notSynchronized
  have hW : Wd G g ad n a0 s.heap σ s.heap [] := ⟨hP, hD, va_S.rf⟩
  clear hP hD
  have hL32 : ∀ (σ : St) (u3 : Int64) (H : Heap) (locs : List Loc) (ls : Array Slot), Wd G g ad n a0 s.heap σ H locs → lv_has ls 6 [(3, .long u3)] → F_X3_number_L32 r0  σ u3 = some x → W p l e (headSpec wsX3_number ({ frames := 1, cells := 0, slots := 0, locals := 21 } : Room)).room s m ([.ref (ad (r0)), .int x1, .int x2] : List Value).toArray below meth c H locs 0 0 (MQ below (qJ G g ad n a0 x) ([.ref (ad (r0)), .int x1, .int x2] : List Value).toArray s 0 0 (fun q : Nat => a0 ≤ q)) (F0 m 32 ls []) := by
    intro σ u3 H locs ls hW hl hF
    unfold F_X3_number_L32 at hF
    refine lv_lload_n hx hb dX3_number_32 rfl (lv_at hl 0 rfl) ?_
    exact r_lret hx hb hr hlocks hW hF dX3_number_33
  have hL5 : ∀ (fz : Nat) (σ : St) (u1 : Int32) (u2 : Int32) (u3 : Int64) (u5 : Int32) (H : Heap) (locs : List Loc) (ls : Array Slot), Wd G g ad n a0 s.heap σ H locs → lv_has ls 6 [(0, .ref (ad (r0))), (1, .int u1), (2, .int u2), (3, .long u3), (5, .int u5)] → F_X3_number_L5 r0 (F_X3_number_L32 r0) fz σ u1 u2 u3 u5 = some x → W p l e (headSpec wsX3_number ({ frames := 1, cells := 0, slots := 0, locals := 21 } : Room)).room s m ([.ref (ad (r0)), .int x1, .int x2] : List Value).toArray below meth c H locs 0 0 (MQ below (qJ G g ad n a0 x) ([.ref (ad (r0)), .int x1, .int x2] : List Value).toArray s 0 0 (fun q : Nat => a0 ≤ q)) (F0 m 5 ls []) := by
    intro fz
    induction fz with
    | zero =>
      intro σ u1 u2 u3 u5 H locs ls hW hl hF
      exact absurd hF (by simp [F_X3_number_L5])
    | succ fz ih =>
      have hB5 := ih
      intro σ u1 u2 u3 u5 H locs ls hW hl hF
      unfold F_X3_number_L5 at hF
      refine lv_iload hx hb dX3_number_5 (lv_at hl 4 rfl) ?_
      refine lv_iload_n hx hb dX3_number_7 rfl (lv_at hl 1 rfl) ?_
      refine lv_iload_n hx hb dX3_number_8 rfl (lv_at hl 2 rfl) ?_
      refine lv_iadd hx hb dX3_number_9 ?_
      refine lv_icmp_ge (tgt := 32) hx hb dX3_number_10 (by decide) (fun hc2 => ?_) (fun hc2 => ?_)
      · replace hF := (if_pos hc2).symm.trans hF
        exact hL32 σ u3 _ _ _  hW (lv_sub hl [3] rfl) hF
      · replace hF := (if_neg hc2).symm.trans hF
        refine lv_lload_n hx hb dX3_number_13 rfl (lv_at hl 3 rfl) ?_
        refine lv_bipush (v := 8) hx hb dX3_number_14 (by decide) ?_
        refine lv_lshl (v := (u3 <<< ((Int32.toInt64 8) &&& 63))) hx hb dX3_number_16 rfl ?_
        refine lv_aload_n hx hb dX3_number_17 rfl (lv_at hl 0 rfl) ?_
        refine lv_iload hx hb dX3_number_18 (lv_at hl 4 rfl) ?_
        obtain ⟨y3, hy3, hF⟩ := bd_some hF
        refine r_bi (va_runV (As := [.int u5]) (rest := [.long (u3 <<< ((Int32.toInt64 8) &&& 63))]) ⟨hx, hb, hml, hown, hts⟩ (m_X3_at l G g ad n a0 aM (r0) σ u5 y3 hr0 (by omega) hy3) (cwV 1 hts gX3_number_X3_at rfl rfl rfl (by decide +kernel) ⟨Nat.le_of_ble_eq_true rfl, Nat.le_of_ble_eq_true rfl⟩) (r_preV hK hW (r0) (by omega) (cE_k hr0.1) rfl [.int u5]) rfl rfl hl.1 rfl (lv_room (Nat.le_of_ble_eq_true rfl)) dX3_number_20 ⟨Nat.zero_le _, Nat.zero_le _⟩) hW (fun H locs hW => ?_)
        refine lv_i2l (v := (Int32.toInt64 y3.2)) hx hb dX3_number_23 rfl ?_
        refine lv_lor hx hb dX3_number_24 ?_
        refine lv_lstore_n (lv' := [(3, .long ((u3 <<< ((Int32.toInt64 8) &&& 63)) ||| (Int32.toInt64 y3.2))), (0, .ref (ad (r0))), (1, .int u1), (2, .int u2), (5, .int u5)]) hx hb dX3_number_25 rfl hl (by decide) rfl (fun ls hl => ?_)
        refine lv_iinc (v := (u5 + 1)) (lv' := [(5, .int (u5 + 1)), (3, .long ((u3 <<< ((Int32.toInt64 8) &&& 63)) ||| (Int32.toInt64 y3.2))), (0, .ref (ad (r0))), (1, .int u1), (2, .int u2)]) hx hb dX3_number_26 hl (k := 4) rfl rfl (by decide) rfl (fun ls hl => ?_)
        refine lv_goto (tgt := 5) hx hb dX3_number_29 (by decide) ?_
        exact hB5 y3.1 u1 u2 ((u3 <<< ((Int32.toInt64 8) &&& 63)) ||| (Int32.toInt64 y3.2)) (u5 + 1) _ _ _  hW (lv_sub hl [2, 3, 4, 1, 0] rfl) hF
  have hL5 := hL5 fu
  have hl := lv_entry ([.ref (ad (r0)), .int x1, .int x2]) (n := 6) (Nat.le_of_ble_eq_true rfl)
  rw [lg_entry_eq]
  generalize (lg_sl ([.ref (ad (r0)), .int x1, .int x2]) ++ List.replicate (6 - (lg_sl ([.ref (ad (r0)), .int x1, .int x2])).length) Slot.unset).toArray = ls at hl ⊢
  have hl : lv_has ls 6 [(0, .ref (ad (r0))), (1, .int x1), (2, .int x2)] := hl
  unfold F_X3_number at hF
  refine lv_lconst (v := 0) hx hb dX3_number_0 (by decide) ?_
  refine lv_lstore_n (lv' := [(3, .long 0), (0, .ref (ad (r0))), (1, .int x1), (2, .int x2)]) hx hb dX3_number_1 rfl hl (by decide) rfl (fun ls hl => ?_)
  refine lv_iload_n hx hb dX3_number_2 rfl (lv_at hl 2 rfl) ?_
  refine lv_istore (lv' := [(5, .int x1), (3, .long 0), (0, .ref (ad (r0))), (1, .int x1), (2, .int x2)]) hx hb dX3_number_3 hl (by decide) rfl (fun ls hl => ?_)
  exact hL5 σ x1 x2 0 x1 _ _ _  hW (lv_sub hl [2, 3, 4, 1, 0] rfl) hF
def F_X3_sum_L41 (r0 : Nat) (σ : St) (u3 : Int32) : Option (St × Int32) := some (σ, (u3 &&& 65535))
def F_X3_sum_L5 (r0 : Nat) (K41 : St → Int32 → Option (St × Int32)) : Nat → St → Int32 → Int32 → Int32 → Option (St × Int32)
  | 0, _, _, _, _ => none
  | fz + 1, σ, u2, u3, u4 => if u4 < 0 then K41 σ u3 else if u2 ≤ u4 then K41 σ u3 else if (σ.1 (r0) 1) ≤ u4 then K41 σ u3 else gd (ib u4 (ln (r0 + 1))) (F_X3_sum_L5 r0 K41 fz σ u2 (u3 + (σ.1 (r0 + 1) (Int32.toNatClampNeg u4))) (u4 + 1))
def F_X3_sum (r0 : Nat) (σ : St) (x1 : Int32) (x2 : Int32) : Option (St × Int32) := F_X3_sum_L5 r0 (F_X3_sum_L41 r0) fu σ x2 0 x1
set_option maxHeartbeats 4000000 in
set_option maxRecDepth 100000 in
theorem m_X3_sum (l : Launch) (G : va_G) (g : Nat → ClassId) (ad : Nat → Nat) (n a0 aM : Nat) (r0 : Nat) (σ : St) (x1 : Int32) (x2 : Int32) (x : St × Int32) (hr0 : isRow r0) (tr0 : r0 + 1 < tp n) (hF : F_X3_sum r0 σ x1 x2 = some x) : Met l yX3_sum wsX3_sum ({ frames := 0, cells := 0, slots := 0, locals := 0 } : Room) (va_Pc [.ref (ad (r0)), .int x1, .int x2] (wP G g ad n a0 aM σ)) (qI G g ad n a0 x) 0 0 (fun q : Nat => a0 ≤ q) := by
  refine Met.ofW (cc := cX3_sum) (maxL := 5) (ret := (some .int)) (by decide) rfl ?_
  intro p e s m args below meth c s₁ B hml hv
  obtain ⟨rfl, hP, hD, hK⟩ := hv
  have hx := B.exec
  have hb := B.bytes
  have hr := B.returns
  have hts := atoms_spec (ws := wsX3_sum) B.pre
  have hown : s.vm.findClass RX3 = some m.cls := findClass_of_methodNamed B.named
  have hlocks := B.notSynchronized
  have hW : Wd G g ad n a0 s.heap σ s.heap [] := ⟨hP, hD, va_S.rf⟩
  clear hP hD
  have hL41 : ∀ (σ : St) (u3 : Int32) (H : Heap) (locs : List Loc) (ls : Array Slot), Wd G g ad n a0 s.heap σ H locs → lv_has ls 5 [(3, .int u3)] → F_X3_sum_L41 r0  σ u3 = some x → W p l e (headSpec wsX3_sum ({ frames := 0, cells := 0, slots := 0, locals := 0 } : Room)).room s m ([.ref (ad (r0)), .int x1, .int x2] : List Value).toArray below meth c H locs 0 0 (MQ below (qI G g ad n a0 x) ([.ref (ad (r0)), .int x1, .int x2] : List Value).toArray s 0 0 (fun q : Nat => a0 ≤ q)) (F0 m 41 ls []) := by
    intro σ u3 H locs ls hW hl hF
    unfold F_X3_sum_L41 at hF
    refine lv_iload_n hx hb dX3_sum_41 rfl (lv_at hl 0 rfl) ?_
    refine lv_ldc (v := 65535) hx hb hown (hts (.constant RX3 21 65535) (by decide +kernel)) dX3_sum_42 ?_
    refine lv_iand hx hb dX3_sum_44 ?_
    exact r_iret hx hb hr hlocks hW hF dX3_sum_45
  have hL5 : ∀ (fz : Nat) (σ : St) (u2 : Int32) (u3 : Int32) (u4 : Int32) (H : Heap) (locs : List Loc) (ls : Array Slot), Wd G g ad n a0 s.heap σ H locs → lv_has ls 5 [(0, .ref (ad (r0))), (2, .int u2), (3, .int u3), (4, .int u4)] → F_X3_sum_L5 r0 (F_X3_sum_L41 r0) fz σ u2 u3 u4 = some x → W p l e (headSpec wsX3_sum ({ frames := 0, cells := 0, slots := 0, locals := 0 } : Room)).room s m ([.ref (ad (r0)), .int x1, .int x2] : List Value).toArray below meth c H locs 0 0 (MQ below (qI G g ad n a0 x) ([.ref (ad (r0)), .int x1, .int x2] : List Value).toArray s 0 0 (fun q : Nat => a0 ≤ q)) (F0 m 5 ls []) := by
    intro fz
    induction fz with
    | zero =>
      intro σ u2 u3 u4 H locs ls hW hl hF
      exact absurd hF (by simp [F_X3_sum_L5])
    | succ fz ih =>
      have hB5 := ih
      intro σ u2 u3 u4 H locs ls hW hl hF
      unfold F_X3_sum_L5 at hF
      refine lv_iload hx hb dX3_sum_5 (lv_at hl 3 rfl) ?_
      refine lv_if_lt (tgt := 41) hx hb dX3_sum_7 (by decide) (fun hc2 => ?_) (fun hc2 => ?_)
      · replace hF := (if_pos hc2).symm.trans hF
        exact hL41 σ u3 _ _ _  hW (lv_sub hl [2] rfl) hF
      · replace hF := (if_neg hc2).symm.trans hF
        refine lv_iload hx hb dX3_sum_10 (lv_at hl 3 rfl) ?_
        refine lv_iload_n hx hb dX3_sum_12 rfl (lv_at hl 1 rfl) ?_
        refine lv_icmp_ge (tgt := 41) hx hb dX3_sum_13 (by decide) (fun hc3 => ?_) (fun hc3 => ?_)
        · replace hF := (if_pos hc3).symm.trans hF
          exact hL41 σ u3 _ _ _  hW (lv_sub hl [2] rfl) hF
        · replace hF := (if_neg hc3).symm.trans hF
          refine lv_iload hx hb dX3_sum_16 (lv_at hl 3 rfl) ?_
          refine lv_aload_n hx hb dX3_sum_18 rfl (lv_at hl 0 rfl) ?_
          refine r_get (C := RX3) (T := TX3) (N := 2) hx hb hts (by decide +kernel) hown hK hW (r0) (by omega) (cE_k hr0.1) rfl 1 (by decide) (hts (.fieldLink RX3 13 "LampLine$Row" "size" "I") (by decide +kernel)) rfl dX3_sum_19 ?_
          refine lv_icmp_ge (tgt := 41) hx hb dX3_sum_22 (by decide) (fun hc4 => ?_) (fun hc4 => ?_)
          · replace hF := (if_pos hc4).symm.trans hF
            exact hL41 σ u3 _ _ _  hW (lv_sub hl [2] rfl) hF
          · replace hF := (if_neg hc4).symm.trans hF
            refine lv_iload_n hx hb dX3_sum_25 rfl (lv_at hl 2 rfl) ?_
            refine lv_aload_n hx hb dX3_sum_26 rfl (lv_at hl 0 rfl) ?_
            refine r_get (C := RX3) (T := TX3) (N := 2) hx hb hts (by decide +kernel) hown hK hW (r0) (by omega) (cE_k hr0.1) rfl 0 (by decide) (hts (.fieldLink RX3 7 "LampLine$Row" "cells" "[I") (by decide +kernel)) rfl dX3_sum_27 ?_
            refine lv_iload hx hb dX3_sum_30 (lv_at hl 3 rfl) ?_
            obtain ⟨hg5, hF⟩ := gd_some hF
            refine r_iald hx hb hK hW (r0 + 1) (by omega) hr0.2 hg5 dX3_sum_32 ?_
            refine lv_iadd hx hb dX3_sum_33 ?_
            refine lv_istore_n (lv' := [(3, .int (u3 + (σ.1 (r0 + 1) (Int32.toNatClampNeg u4)))), (0, .ref (ad (r0))), (2, .int u2), (4, .int u4)]) hx hb dX3_sum_34 rfl hl (by decide) rfl (fun ls hl => ?_)
            refine lv_iinc (v := (u4 + 1)) (lv' := [(4, .int (u4 + 1)), (3, .int (u3 + (σ.1 (r0 + 1) (Int32.toNatClampNeg u4)))), (0, .ref (ad (r0))), (2, .int u2)]) hx hb dX3_sum_35 hl (k := 3) rfl rfl (by decide) rfl (fun ls hl => ?_)
            refine lv_goto (tgt := 5) hx hb dX3_sum_38 (by decide) ?_
            exact hB5 σ u2 (u3 + (σ.1 (r0 + 1) (Int32.toNatClampNeg u4))) (u4 + 1) _ _ _  hW (lv_sub hl [2, 3, 1, 0] rfl) hF
  have hL5 := hL5 fu
  have hl := lv_entry ([.ref (ad (r0)), .int x1, .int x2]) (n := 5) (Nat.le_of_ble_eq_true rfl)
  rw [lg_entry_eq]
  generalize (lg_sl ([.ref (ad (r0)), .int x1, .int x2]) ++ List.replicate (5 - (lg_sl ([.ref (ad (r0)), .int x1, .int x2])).length) Slot.unset).toArray = ls at hl ⊢
  have hl : lv_has ls 5 [(0, .ref (ad (r0))), (1, .int x1), (2, .int x2)] := hl
  unfold F_X3_sum at hF
  refine lv_iconst (v := 0) hx hb dX3_sum_0 (by decide) ?_
  refine lv_istore_n (lv' := [(3, .int 0), (0, .ref (ad (r0))), (1, .int x1), (2, .int x2)]) hx hb dX3_sum_1 rfl hl (by decide) rfl (fun ls hl => ?_)
  refine lv_iload_n hx hb dX3_sum_2 rfl (lv_at hl 2 rfl) ?_
  refine lv_istore (lv' := [(4, .int x1), (3, .int 0), (0, .ref (ad (r0))), (1, .int x1), (2, .int x2)]) hx hb dX3_sum_3 hl (by decide) rfl (fun ls hl => ?_)
  exact hL5 σ x2 0 x1 _ _ _  hW (lv_sub hl [2, 4, 1, 0] rfl) hF
def F_X3_cut (r0 : Nat) (σ : St) (x1 : Int32) : Option (St) := if x1 < 0 then some σ else if (σ.1 (r0) 1) ≤ x1 then some σ else some (sI σ (r0) 1 x1)
set_option maxHeartbeats 4000000 in
set_option maxRecDepth 100000 in
theorem m_X3_cut (l : Launch) (G : va_G) (g : Nat → ClassId) (ad : Nat → Nat) (n a0 aM : Nat) (r0 : Nat) (σ : St) (x1 : Int32) (x : St) (hr0 : isRow r0) (tr0 : r0 + 1 < tp n) (hF : F_X3_cut r0 σ x1 = some x) : Met l yX3_cut wsX3_cut ({ frames := 0, cells := 0, slots := 0, locals := 0 } : Room) (va_Pc [.ref (ad (r0)), .int x1] (wP G g ad n a0 aM σ)) (qV G g ad n a0 x) 0 0 (fun q : Nat => a0 ≤ q) := by
  refine Met.ofW (cc := cX3_cut) (maxL := 2) (ret := none) (by decide) rfl ?_
  intro p e s m args below meth c s₁ B hml hv
  obtain ⟨rfl, hP, hD, hK⟩ := hv
  have hx := B.exec
  have hb := B.bytes
  have hr := B.returns
  have hts := atoms_spec (ws := wsX3_cut) B.pre
  have hown : s.vm.findClass RX3 = some m.cls := findClass_of_methodNamed B.named
  have hlocks := B.notSynchronized
  have hW : Wd G g ad n a0 s.heap σ s.heap [] := ⟨hP, hD, va_S.rf⟩
  clear hP hD
  have hl := lv_entry ([.ref (ad (r0)), .int x1]) (n := 2) (Nat.le_of_ble_eq_true rfl)
  rw [lg_entry_eq]
  generalize (lg_sl ([.ref (ad (r0)), .int x1]) ++ List.replicate (2 - (lg_sl ([.ref (ad (r0)), .int x1])).length) Slot.unset).toArray = ls at hl ⊢
  have hl : lv_has ls 2 [(0, .ref (ad (r0))), (1, .int x1)] := hl
  unfold F_X3_cut at hF
  refine lv_iload_n hx hb dX3_cut_0 rfl (lv_at hl 1 rfl) ?_
  refine lv_if_lt (tgt := 17) hx hb dX3_cut_1 (by decide) (fun hc1 => ?_) (fun hc1 => ?_)
  · replace hF := (if_pos hc1).symm.trans hF
    exact r_vret hx hb hr hlocks hW hF dX3_cut_17
  · replace hF := (if_neg hc1).symm.trans hF
    refine lv_iload_n hx hb dX3_cut_4 rfl (lv_at hl 1 rfl) ?_
    refine lv_aload_n hx hb dX3_cut_5 rfl (lv_at hl 0 rfl) ?_
    refine r_get (C := RX3) (T := TX3) (N := 2) hx hb hts (by decide +kernel) hown hK hW (r0) (by omega) (cE_k hr0.1) rfl 1 (by decide) (hts (.fieldLink RX3 13 "LampLine$Row" "size" "I") (by decide +kernel)) rfl dX3_cut_6 ?_
    refine lv_icmp_ge (tgt := 17) hx hb dX3_cut_9 (by decide) (fun hc2 => ?_) (fun hc2 => ?_)
    · replace hF := (if_pos hc2).symm.trans hF
      exact r_vret hx hb hr hlocks hW hF dX3_cut_17
    · replace hF := (if_neg hc2).symm.trans hF
      refine lv_aload_n hx hb dX3_cut_12 rfl (lv_at hl 0 rfl) ?_
      refine lv_iload_n hx hb dX3_cut_13 rfl (lv_at hl 1 rfl) ?_
      refine r_putI (C := RX3) (T := TX3) (N := 2) (ty := .int) hx hb hts (by decide +kernel) tyX3 tyX3_ok nmX3 hown hK hW (r0) (by omega) (cE_k hr0.1) rfl 1 (by decide) (cE_k hr0.1) (hts (.fieldLink RX3 13 "LampLine$Row" "size" "I") (by decide +kernel)) rfl (by decide +kernel) rfl rfl (Nat.le_of_ble_eq_true rfl) dX3_cut_14 (fun H locs hW => ?_)
      exact r_vret hx hb hr hlocks hW hF dX3_cut_17
def F_X3_put (r0 : Nat) (σ : St) (x1 : Int32) : Option (St) := if (Int32.ofNat (ln (r0 + 1))) ≤ (σ.1 (r0) 1) then some σ else gd (ib (σ.1 (r0) 1) (ln (r0 + 1))) (some (sI (sI σ (r0 + 1) (Int32.toNatClampNeg (σ.1 (r0) 1)) (x1 &&& 255)) (r0) 1 (((sI σ (r0 + 1) (Int32.toNatClampNeg (σ.1 (r0) 1)) (x1 &&& 255)).1 (r0) 1) + 1)))
set_option maxHeartbeats 4000000 in
set_option maxRecDepth 100000 in
theorem m_X3_put (l : Launch) (G : va_G) (g : Nat → ClassId) (ad : Nat → Nat) (n a0 aM : Nat) (r0 : Nat) (σ : St) (x1 : Int32) (x : St) (hr0 : isRow r0) (tr0 : r0 + 1 < tp n) (hF : F_X3_put r0 σ x1 = some x) : Met l yX3_put wsX3_put ({ frames := 0, cells := 0, slots := 0, locals := 0 } : Room) (va_Pc [.ref (ad (r0)), .int x1] (wP G g ad n a0 aM σ)) (qV G g ad n a0 x) 0 0 (fun q : Nat => a0 ≤ q) := by
  refine Met.ofW (cc := cX3_put) (maxL := 2) (ret := none) (by decide) rfl ?_
  intro p e s m args below meth c s₁ B hml hv
  obtain ⟨rfl, hP, hD, hK⟩ := hv
  have hx := B.exec
  have hb := B.bytes
  have hr := B.returns
  have hts := atoms_spec (ws := wsX3_put) B.pre
  have hown : s.vm.findClass RX3 = some m.cls := findClass_of_methodNamed B.named
  have hlocks := B.notSynchronized
  have hW : Wd G g ad n a0 s.heap σ s.heap [] := ⟨hP, hD, va_S.rf⟩
  clear hP hD
  have hl := lv_entry ([.ref (ad (r0)), .int x1]) (n := 2) (Nat.le_of_ble_eq_true rfl)
  rw [lg_entry_eq]
  generalize (lg_sl ([.ref (ad (r0)), .int x1]) ++ List.replicate (2 - (lg_sl ([.ref (ad (r0)), .int x1])).length) Slot.unset).toArray = ls at hl ⊢
  have hl : lv_has ls 2 [(0, .ref (ad (r0))), (1, .int x1)] := hl
  unfold F_X3_put at hF
  refine lv_aload_n hx hb dX3_put_0 rfl (lv_at hl 0 rfl) ?_
  refine r_get (C := RX3) (T := TX3) (N := 2) hx hb hts (by decide +kernel) hown hK hW (r0) (by omega) (cE_k hr0.1) rfl 1 (by decide) (hts (.fieldLink RX3 13 "LampLine$Row" "size" "I") (by decide +kernel)) rfl dX3_put_1 ?_
  refine lv_aload_n hx hb dX3_put_4 rfl (lv_at hl 0 rfl) ?_
  refine r_get (C := RX3) (T := TX3) (N := 2) hx hb hts (by decide +kernel) hown hK hW (r0) (by omega) (cE_k hr0.1) rfl 0 (by decide) (hts (.fieldLink RX3 7 "LampLine$Row" "cells" "[I") (by decide +kernel)) rfl dX3_put_5 ?_
  refine r_ilen hx hb hK hW (r0 + 1) (by omega) hr0.2 dX3_put_8 ?_
  refine lv_icmp_ge (tgt := 36) hx hb dX3_put_9 (by decide) (fun hc2 => ?_) (fun hc2 => ?_)
  · replace hF := (if_pos hc2).symm.trans hF
    exact r_vret hx hb hr hlocks hW hF dX3_put_36
  · replace hF := (if_neg hc2).symm.trans hF
    refine lv_aload_n hx hb dX3_put_12 rfl (lv_at hl 0 rfl) ?_
    refine r_get (C := RX3) (T := TX3) (N := 2) hx hb hts (by decide +kernel) hown hK hW (r0) (by omega) (cE_k hr0.1) rfl 0 (by decide) (hts (.fieldLink RX3 7 "LampLine$Row" "cells" "[I") (by decide +kernel)) rfl dX3_put_13 ?_
    refine lv_aload_n hx hb dX3_put_16 rfl (lv_at hl 0 rfl) ?_
    refine r_get (C := RX3) (T := TX3) (N := 2) hx hb hts (by decide +kernel) hown hK hW (r0) (by omega) (cE_k hr0.1) rfl 1 (by decide) (hts (.fieldLink RX3 13 "LampLine$Row" "size" "I") (by decide +kernel)) rfl dX3_put_17 ?_
    refine lv_iload_n hx hb dX3_put_20 rfl (lv_at hl 1 rfl) ?_
    refine lv_sipush (v := 255) hx hb dX3_put_21 (by decide) ?_
    refine lv_iand hx hb dX3_put_24 ?_
    obtain ⟨hg3, hF⟩ := gd_some hF
    refine r_iast hx hb hK hW (r0 + 1) (by omega) hr0.2 hg3 dX3_put_25 (fun H locs hW => ?_)
    refine lv_aload_n hx hb dX3_put_26 rfl (lv_at hl 0 rfl) ?_
    refine lv_dup hx hb dX3_put_27 rfl ?_
    refine r_get (C := RX3) (T := TX3) (N := 2) hx hb hts (by decide +kernel) hown hK hW (r0) (by omega) (cE_k hr0.1) rfl 1 (by decide) (hts (.fieldLink RX3 13 "LampLine$Row" "size" "I") (by decide +kernel)) rfl dX3_put_28 ?_
    refine lv_iconst (v := 1) hx hb dX3_put_31 (by decide) ?_
    refine lv_iadd hx hb dX3_put_32 ?_
    refine r_putI (C := RX3) (T := TX3) (N := 2) (ty := .int) hx hb hts (by decide +kernel) tyX3 tyX3_ok nmX3 hown hK hW (r0) (by omega) (cE_k hr0.1) rfl 1 (by decide) (cE_k hr0.1) (hts (.fieldLink RX3 13 "LampLine$Row" "size" "I") (by decide +kernel)) rfl (by decide +kernel) rfl rfl (Nat.le_of_ble_eq_true rfl) dX3_put_33 (fun H locs hW => ?_)
    exact r_vret hx hb hr hlocks hW hF dX3_put_36
def F_X3_putNumber_L59 (r0 : Nat) (σ : St) : Option (St) := some σ
def F_X3_putNumber_L5 (r0 : Nat) (K59 : St → Option (St)) : Nat → St → Int64 → Int32 → Option (St)
  | 0, _, _, _ => none
  | fz + 1, σ, u1, u4 => if u4 < 0 then K59 σ else if (Int32.ofNat (ln (r0 + 1))) ≤ (σ.1 (r0) 1) then K59 σ else gd (ib (σ.1 (r0) 1) (ln (r0 + 1))) (F_X3_putNumber_L5 r0 K59 fz (sI (sI σ (r0 + 1) (Int32.toNatClampNeg (σ.1 (r0) 1)) ((Int64.toInt32 ((Int64.toUInt64 u1) >>> ((Int64.toUInt64 (Int32.toInt64 (8 * u4))) &&& Int64.toUInt64 63)).toInt64) &&& 255)) (r0) 1 (((sI σ (r0 + 1) (Int32.toNatClampNeg (σ.1 (r0) 1)) ((Int64.toInt32 ((Int64.toUInt64 u1) >>> ((Int64.toUInt64 (Int32.toInt64 (8 * u4))) &&& Int64.toUInt64 63)).toInt64) &&& 255)).1 (r0) 1) + 1)) u1 (u4 + (-1)))
def F_X3_putNumber (r0 : Nat) (σ : St) (x1 : Int64) (x3 : Int32) : Option (St) := F_X3_putNumber_L5 r0 (F_X3_putNumber_L59 r0) fu σ x1 (x3 - 1)
set_option maxHeartbeats 4000000 in
set_option maxRecDepth 100000 in
theorem m_X3_putNumber (l : Launch) (G : va_G) (g : Nat → ClassId) (ad : Nat → Nat) (n a0 aM : Nat) (r0 : Nat) (σ : St) (x1 : Int64) (x3 : Int32) (x : St) (hr0 : isRow r0) (tr0 : r0 + 1 < tp n) (hF : F_X3_putNumber r0 σ x1 x3 = some x) : Met l yX3_putNumber wsX3_putNumber ({ frames := 0, cells := 0, slots := 0, locals := 0 } : Room) (va_Pc [.ref (ad (r0)), .long x1, .int x3] (wP G g ad n a0 aM σ)) (qV G g ad n a0 x) 0 0 (fun q : Nat => a0 ≤ q) := by
  refine Met.ofW (cc := cX3_putNumber) (maxL := 5) (ret := none) (by decide) rfl ?_
  intro p e s m args below meth c s₁ B hml hv
  obtain ⟨rfl, hP, hD, hK⟩ := hv
  have hx := B.exec
  have hb := B.bytes
  have hr := B.returns
  have hts := atoms_spec (ws := wsX3_putNumber) B.pre
  have hown : s.vm.findClass RX3 = some m.cls := findClass_of_methodNamed B.named
  have hlocks := B.notSynchronized
  have hW : Wd G g ad n a0 s.heap σ s.heap [] := ⟨hP, hD, va_S.rf⟩
  clear hP hD
  have hL59 : ∀ (σ : St) (H : Heap) (locs : List Loc) (ls : Array Slot), Wd G g ad n a0 s.heap σ H locs → lv_has ls 5 [] → F_X3_putNumber_L59 r0  σ = some x → W p l e (headSpec wsX3_putNumber ({ frames := 0, cells := 0, slots := 0, locals := 0 } : Room)).room s m ([.ref (ad (r0)), .long x1, .int x3] : List Value).toArray below meth c H locs 0 0 (MQ below (qV G g ad n a0 x) ([.ref (ad (r0)), .long x1, .int x3] : List Value).toArray s 0 0 (fun q : Nat => a0 ≤ q)) (F0 m 59 ls []) := by
    intro σ H locs ls hW hl hF
    unfold F_X3_putNumber_L59 at hF
    exact r_vret hx hb hr hlocks hW hF dX3_putNumber_59
  have hL5 : ∀ (fz : Nat) (σ : St) (u1 : Int64) (u4 : Int32) (H : Heap) (locs : List Loc) (ls : Array Slot), Wd G g ad n a0 s.heap σ H locs → lv_has ls 5 [(0, .ref (ad (r0))), (1, .long u1), (4, .int u4)] → F_X3_putNumber_L5 r0 (F_X3_putNumber_L59 r0) fz σ u1 u4 = some x → W p l e (headSpec wsX3_putNumber ({ frames := 0, cells := 0, slots := 0, locals := 0 } : Room)).room s m ([.ref (ad (r0)), .long x1, .int x3] : List Value).toArray below meth c H locs 0 0 (MQ below (qV G g ad n a0 x) ([.ref (ad (r0)), .long x1, .int x3] : List Value).toArray s 0 0 (fun q : Nat => a0 ≤ q)) (F0 m 5 ls []) := by
    intro fz
    induction fz with
    | zero =>
      intro σ u1 u4 H locs ls hW hl hF
      exact absurd hF (by simp [F_X3_putNumber_L5])
    | succ fz ih =>
      have hB5 := ih
      intro σ u1 u4 H locs ls hW hl hF
      unfold F_X3_putNumber_L5 at hF
      refine lv_iload hx hb dX3_putNumber_5 (lv_at hl 2 rfl) ?_
      refine lv_if_lt (tgt := 59) hx hb dX3_putNumber_7 (by decide) (fun hc2 => ?_) (fun hc2 => ?_)
      · replace hF := (if_pos hc2).symm.trans hF
        exact hL59 σ _ _ _  hW (lv_sub hl [] rfl) hF
      · replace hF := (if_neg hc2).symm.trans hF
        refine lv_aload_n hx hb dX3_putNumber_10 rfl (lv_at hl 0 rfl) ?_
        refine r_get (C := RX3) (T := TX3) (N := 2) hx hb hts (by decide +kernel) hown hK hW (r0) (by omega) (cE_k hr0.1) rfl 1 (by decide) (hts (.fieldLink RX3 13 "LampLine$Row" "size" "I") (by decide +kernel)) rfl dX3_putNumber_11 ?_
        refine lv_aload_n hx hb dX3_putNumber_14 rfl (lv_at hl 0 rfl) ?_
        refine r_get (C := RX3) (T := TX3) (N := 2) hx hb hts (by decide +kernel) hown hK hW (r0) (by omega) (cE_k hr0.1) rfl 0 (by decide) (hts (.fieldLink RX3 7 "LampLine$Row" "cells" "[I") (by decide +kernel)) rfl dX3_putNumber_15 ?_
        refine r_ilen hx hb hK hW (r0 + 1) (by omega) hr0.2 dX3_putNumber_18 ?_
        refine lv_icmp_ge (tgt := 59) hx hb dX3_putNumber_19 (by decide) (fun hc3 => ?_) (fun hc3 => ?_)
        · replace hF := (if_pos hc3).symm.trans hF
          exact hL59 σ _ _ _  hW (lv_sub hl [] rfl) hF
        · replace hF := (if_neg hc3).symm.trans hF
          refine lv_aload_n hx hb dX3_putNumber_22 rfl (lv_at hl 0 rfl) ?_
          refine r_get (C := RX3) (T := TX3) (N := 2) hx hb hts (by decide +kernel) hown hK hW (r0) (by omega) (cE_k hr0.1) rfl 0 (by decide) (hts (.fieldLink RX3 7 "LampLine$Row" "cells" "[I") (by decide +kernel)) rfl dX3_putNumber_23 ?_
          refine lv_aload_n hx hb dX3_putNumber_26 rfl (lv_at hl 0 rfl) ?_
          refine r_get (C := RX3) (T := TX3) (N := 2) hx hb hts (by decide +kernel) hown hK hW (r0) (by omega) (cE_k hr0.1) rfl 1 (by decide) (hts (.fieldLink RX3 13 "LampLine$Row" "size" "I") (by decide +kernel)) rfl dX3_putNumber_27 ?_
          refine lv_lload_n hx hb dX3_putNumber_30 rfl (lv_at hl 1 rfl) ?_
          refine lv_bipush (v := 8) hx hb dX3_putNumber_31 (by decide) ?_
          refine lv_iload hx hb dX3_putNumber_33 (lv_at hl 2 rfl) ?_
          refine lv_imul hx hb dX3_putNumber_35 ?_
          refine lv_lushr (v := ((Int64.toUInt64 u1) >>> ((Int64.toUInt64 (Int32.toInt64 (8 * u4))) &&& Int64.toUInt64 63)).toInt64) hx hb dX3_putNumber_36 rfl ?_
          refine lv_l2i (v := (Int64.toInt32 ((Int64.toUInt64 u1) >>> ((Int64.toUInt64 (Int32.toInt64 (8 * u4))) &&& Int64.toUInt64 63)).toInt64)) hx hb dX3_putNumber_37 rfl ?_
          refine lv_sipush (v := 255) hx hb dX3_putNumber_38 (by decide) ?_
          refine lv_iand hx hb dX3_putNumber_41 ?_
          obtain ⟨hg4, hF⟩ := gd_some hF
          refine r_iast hx hb hK hW (r0 + 1) (by omega) hr0.2 hg4 dX3_putNumber_42 (fun H locs hW => ?_)
          refine lv_aload_n hx hb dX3_putNumber_43 rfl (lv_at hl 0 rfl) ?_
          refine lv_dup hx hb dX3_putNumber_44 rfl ?_
          refine r_get (C := RX3) (T := TX3) (N := 2) hx hb hts (by decide +kernel) hown hK hW (r0) (by omega) (cE_k hr0.1) rfl 1 (by decide) (hts (.fieldLink RX3 13 "LampLine$Row" "size" "I") (by decide +kernel)) rfl dX3_putNumber_45 ?_
          refine lv_iconst (v := 1) hx hb dX3_putNumber_48 (by decide) ?_
          refine lv_iadd hx hb dX3_putNumber_49 ?_
          refine r_putI (C := RX3) (T := TX3) (N := 2) (ty := .int) hx hb hts (by decide +kernel) tyX3 tyX3_ok nmX3 hown hK hW (r0) (by omega) (cE_k hr0.1) rfl 1 (by decide) (cE_k hr0.1) (hts (.fieldLink RX3 13 "LampLine$Row" "size" "I") (by decide +kernel)) rfl (by decide +kernel) rfl rfl (Nat.le_of_ble_eq_true rfl) dX3_putNumber_50 (fun H locs hW => ?_)
          refine lv_iinc (v := (u4 + (-1))) (lv' := [(4, .int (u4 + (-1))), (0, .ref (ad (r0))), (1, .long u1)]) hx hb dX3_putNumber_53 hl (k := 2) rfl rfl (by decide) rfl (fun ls hl => ?_)
          refine lv_goto (tgt := 5) hx hb dX3_putNumber_56 (by decide) ?_
          exact hB5 (sI (sI σ (r0 + 1) (Int32.toNatClampNeg (σ.1 (r0) 1)) ((Int64.toInt32 ((Int64.toUInt64 u1) >>> ((Int64.toUInt64 (Int32.toInt64 (8 * u4))) &&& Int64.toUInt64 63)).toInt64) &&& 255)) (r0) 1 (((sI σ (r0 + 1) (Int32.toNatClampNeg (σ.1 (r0) 1)) ((Int64.toInt32 ((Int64.toUInt64 u1) >>> ((Int64.toUInt64 (Int32.toInt64 (8 * u4))) &&& Int64.toUInt64 63)).toInt64) &&& 255)).1 (r0) 1) + 1)) u1 (u4 + (-1)) _ _ _  hW (lv_sub hl [1, 2, 0] rfl) hF
  have hL5 := hL5 fu
  have hl := lv_entry ([.ref (ad (r0)), .long x1, .int x3]) (n := 5) (Nat.le_of_ble_eq_true rfl)
  rw [lg_entry_eq]
  generalize (lg_sl ([.ref (ad (r0)), .long x1, .int x3]) ++ List.replicate (5 - (lg_sl ([.ref (ad (r0)), .long x1, .int x3])).length) Slot.unset).toArray = ls at hl ⊢
  have hl : lv_has ls 5 [(0, .ref (ad (r0))), (1, .long x1), (3, .int x3)] := hl
  unfold F_X3_putNumber at hF
  refine lv_iload_n hx hb dX3_putNumber_0 rfl (lv_at hl 2 rfl) ?_
  refine lv_iconst (v := 1) hx hb dX3_putNumber_1 (by decide) ?_
  refine lv_isub hx hb dX3_putNumber_2 ?_
  refine lv_istore (lv' := [(4, .int (x3 - 1)), (0, .ref (ad (r0))), (1, .long x1), (3, .int x3)]) hx hb dX3_putNumber_3 hl (by decide) rfl (fun ls hl => ?_)
  exact hL5 σ x1 (x3 - 1) _ _ _  hW (lv_sub hl [1, 2, 0] rfl) hF
def F_X3_copyFrom_L52 (r0 : Nat) (r1 : Nat) (σ : St) : Option (St) := some σ
def F_X3_copyFrom_L7 (r0 : Nat) (r1 : Nat) (K52 : St → Option (St)) : Nat → St → Int32 → Option (St)
  | 0, _, _ => none
  | fz + 1, σ, u2 => if (σ.1 (r1) 1) ≤ u2 then K52 σ else if (Int32.ofNat (ln (r0 + 1))) ≤ u2 then K52 σ else gd (ib u2 (ln (r1 + 1))) (gd (ib u2 (ln (r0 + 1))) (F_X3_copyFrom_L7 r0 r1 K52 fz (sI (sI σ (r0 + 1) (Int32.toNatClampNeg u2) (σ.1 (r1 + 1) (Int32.toNatClampNeg u2))) (r0) 1 (((sI σ (r0 + 1) (Int32.toNatClampNeg u2) (σ.1 (r1 + 1) (Int32.toNatClampNeg u2))).1 (r0) 1) + 1)) (u2 + 1)))
def F_X3_copyFrom (r0 : Nat) (r1 : Nat) (σ : St) : Option (St) := F_X3_copyFrom_L7 r0 r1 (F_X3_copyFrom_L52 r0 r1) fu (sI σ (r0) 1 0) 0
set_option maxHeartbeats 4000000 in
set_option maxRecDepth 100000 in
theorem m_X3_copyFrom (l : Launch) (G : va_G) (g : Nat → ClassId) (ad : Nat → Nat) (n a0 aM : Nat) (r0 : Nat) (r1 : Nat) (σ : St) (x : St) (hr0 : isRow r0) (tr0 : r0 + 1 < tp n) (hr1 : isRow r1) (tr1 : r1 + 1 < tp n) (hF : F_X3_copyFrom r0 r1 σ = some x) : Met l yX3_copyFrom wsX3_copyFrom ({ frames := 0, cells := 0, slots := 0, locals := 0 } : Room) (va_Pc [.ref (ad (r0)), .ref (ad (r1))] (wP G g ad n a0 aM σ)) (qV G g ad n a0 x) 0 0 (fun q : Nat => a0 ≤ q) := by
  refine Met.ofW (cc := cX3_copyFrom) (maxL := 3) (ret := none) (by decide) rfl ?_
  intro p e s m args below meth c s₁ B hml hv
  obtain ⟨rfl, hP, hD, hK⟩ := hv
  have hx := B.exec
  have hb := B.bytes
  have hr := B.returns
  have hts := atoms_spec (ws := wsX3_copyFrom) B.pre
  have hown : s.vm.findClass RX3 = some m.cls := findClass_of_methodNamed B.named
  have hlocks := B.notSynchronized
  have hW : Wd G g ad n a0 s.heap σ s.heap [] := ⟨hP, hD, va_S.rf⟩
  clear hP hD
  have hL52 : ∀ (σ : St) (H : Heap) (locs : List Loc) (ls : Array Slot), Wd G g ad n a0 s.heap σ H locs → lv_has ls 3 [] → F_X3_copyFrom_L52 r0 r1  σ = some x → W p l e (headSpec wsX3_copyFrom ({ frames := 0, cells := 0, slots := 0, locals := 0 } : Room)).room s m ([.ref (ad (r0)), .ref (ad (r1))] : List Value).toArray below meth c H locs 0 0 (MQ below (qV G g ad n a0 x) ([.ref (ad (r0)), .ref (ad (r1))] : List Value).toArray s 0 0 (fun q : Nat => a0 ≤ q)) (F0 m 52 ls []) := by
    intro σ H locs ls hW hl hF
    unfold F_X3_copyFrom_L52 at hF
    exact r_vret hx hb hr hlocks hW hF dX3_copyFrom_52
  have hL7 : ∀ (fz : Nat) (σ : St) (u2 : Int32) (H : Heap) (locs : List Loc) (ls : Array Slot), Wd G g ad n a0 s.heap σ H locs → lv_has ls 3 [(0, .ref (ad (r0))), (1, .ref (ad (r1))), (2, .int u2)] → F_X3_copyFrom_L7 r0 r1 (F_X3_copyFrom_L52 r0 r1) fz σ u2 = some x → W p l e (headSpec wsX3_copyFrom ({ frames := 0, cells := 0, slots := 0, locals := 0 } : Room)).room s m ([.ref (ad (r0)), .ref (ad (r1))] : List Value).toArray below meth c H locs 0 0 (MQ below (qV G g ad n a0 x) ([.ref (ad (r0)), .ref (ad (r1))] : List Value).toArray s 0 0 (fun q : Nat => a0 ≤ q)) (F0 m 7 ls []) := by
    intro fz
    induction fz with
    | zero =>
      intro σ u2 H locs ls hW hl hF
      exact absurd hF (by simp [F_X3_copyFrom_L7])
    | succ fz ih =>
      have hB7 := ih
      intro σ u2 H locs ls hW hl hF
      unfold F_X3_copyFrom_L7 at hF
      refine lv_iload_n hx hb dX3_copyFrom_7 rfl (lv_at hl 2 rfl) ?_
      refine lv_aload_n hx hb dX3_copyFrom_8 rfl (lv_at hl 1 rfl) ?_
      refine r_get (C := RX3) (T := TX3) (N := 2) hx hb hts (by decide +kernel) hown hK hW (r1) (by omega) (cE_k hr1.1) rfl 1 (by decide) (hts (.fieldLink RX3 13 "LampLine$Row" "size" "I") (by decide +kernel)) rfl dX3_copyFrom_9 ?_
      refine lv_icmp_ge (tgt := 52) hx hb dX3_copyFrom_12 (by decide) (fun hc3 => ?_) (fun hc3 => ?_)
      · replace hF := (if_pos hc3).symm.trans hF
        exact hL52 σ _ _ _  hW (lv_sub hl [] rfl) hF
      · replace hF := (if_neg hc3).symm.trans hF
        refine lv_iload_n hx hb dX3_copyFrom_15 rfl (lv_at hl 2 rfl) ?_
        refine lv_aload_n hx hb dX3_copyFrom_16 rfl (lv_at hl 0 rfl) ?_
        refine r_get (C := RX3) (T := TX3) (N := 2) hx hb hts (by decide +kernel) hown hK hW (r0) (by omega) (cE_k hr0.1) rfl 0 (by decide) (hts (.fieldLink RX3 7 "LampLine$Row" "cells" "[I") (by decide +kernel)) rfl dX3_copyFrom_17 ?_
        refine r_ilen hx hb hK hW (r0 + 1) (by omega) hr0.2 dX3_copyFrom_20 ?_
        refine lv_icmp_ge (tgt := 52) hx hb dX3_copyFrom_21 (by decide) (fun hc4 => ?_) (fun hc4 => ?_)
        · replace hF := (if_pos hc4).symm.trans hF
          exact hL52 σ _ _ _  hW (lv_sub hl [] rfl) hF
        · replace hF := (if_neg hc4).symm.trans hF
          refine lv_aload_n hx hb dX3_copyFrom_24 rfl (lv_at hl 0 rfl) ?_
          refine r_get (C := RX3) (T := TX3) (N := 2) hx hb hts (by decide +kernel) hown hK hW (r0) (by omega) (cE_k hr0.1) rfl 0 (by decide) (hts (.fieldLink RX3 7 "LampLine$Row" "cells" "[I") (by decide +kernel)) rfl dX3_copyFrom_25 ?_
          refine lv_iload_n hx hb dX3_copyFrom_28 rfl (lv_at hl 2 rfl) ?_
          refine lv_aload_n hx hb dX3_copyFrom_29 rfl (lv_at hl 1 rfl) ?_
          refine r_get (C := RX3) (T := TX3) (N := 2) hx hb hts (by decide +kernel) hown hK hW (r1) (by omega) (cE_k hr1.1) rfl 0 (by decide) (hts (.fieldLink RX3 7 "LampLine$Row" "cells" "[I") (by decide +kernel)) rfl dX3_copyFrom_30 ?_
          refine lv_iload_n hx hb dX3_copyFrom_33 rfl (lv_at hl 2 rfl) ?_
          obtain ⟨hg5, hF⟩ := gd_some hF
          refine r_iald hx hb hK hW (r1 + 1) (by omega) hr1.2 hg5 dX3_copyFrom_34 ?_
          obtain ⟨hg6, hF⟩ := gd_some hF
          refine r_iast hx hb hK hW (r0 + 1) (by omega) hr0.2 hg6 dX3_copyFrom_35 (fun H locs hW => ?_)
          refine lv_aload_n hx hb dX3_copyFrom_36 rfl (lv_at hl 0 rfl) ?_
          refine lv_dup hx hb dX3_copyFrom_37 rfl ?_
          refine r_get (C := RX3) (T := TX3) (N := 2) hx hb hts (by decide +kernel) hown hK hW (r0) (by omega) (cE_k hr0.1) rfl 1 (by decide) (hts (.fieldLink RX3 13 "LampLine$Row" "size" "I") (by decide +kernel)) rfl dX3_copyFrom_38 ?_
          refine lv_iconst (v := 1) hx hb dX3_copyFrom_41 (by decide) ?_
          refine lv_iadd hx hb dX3_copyFrom_42 ?_
          refine r_putI (C := RX3) (T := TX3) (N := 2) (ty := .int) hx hb hts (by decide +kernel) tyX3 tyX3_ok nmX3 hown hK hW (r0) (by omega) (cE_k hr0.1) rfl 1 (by decide) (cE_k hr0.1) (hts (.fieldLink RX3 13 "LampLine$Row" "size" "I") (by decide +kernel)) rfl (by decide +kernel) rfl rfl (Nat.le_of_ble_eq_true rfl) dX3_copyFrom_43 (fun H locs hW => ?_)
          refine lv_iinc (v := (u2 + 1)) (lv' := [(2, .int (u2 + 1)), (0, .ref (ad (r0))), (1, .ref (ad (r1)))]) hx hb dX3_copyFrom_46 hl (k := 2) rfl rfl (by decide) rfl (fun ls hl => ?_)
          refine lv_goto (tgt := 7) hx hb dX3_copyFrom_49 (by decide) ?_
          exact hB7 (sI (sI σ (r0 + 1) (Int32.toNatClampNeg u2) (σ.1 (r1 + 1) (Int32.toNatClampNeg u2))) (r0) 1 (((sI σ (r0 + 1) (Int32.toNatClampNeg u2) (σ.1 (r1 + 1) (Int32.toNatClampNeg u2))).1 (r0) 1) + 1)) (u2 + 1) _ _ _  hW (lv_sub hl [1, 2, 0] rfl) hF
  have hL7 := hL7 fu
  have hl := lv_entry ([.ref (ad (r0)), .ref (ad (r1))]) (n := 3) (Nat.le_of_ble_eq_true rfl)
  rw [lg_entry_eq]
  generalize (lg_sl ([.ref (ad (r0)), .ref (ad (r1))]) ++ List.replicate (3 - (lg_sl ([.ref (ad (r0)), .ref (ad (r1))])).length) Slot.unset).toArray = ls at hl ⊢
  have hl : lv_has ls 3 [(0, .ref (ad (r0))), (1, .ref (ad (r1)))] := hl
  unfold F_X3_copyFrom at hF
  refine lv_aload_n hx hb dX3_copyFrom_0 rfl (lv_at hl 0 rfl) ?_
  refine lv_iconst (v := 0) hx hb dX3_copyFrom_1 (by decide) ?_
  refine r_putI (C := RX3) (T := TX3) (N := 2) (ty := .int) hx hb hts (by decide +kernel) tyX3 tyX3_ok nmX3 hown hK hW (r0) (by omega) (cE_k hr0.1) rfl 1 (by decide) (cE_k hr0.1) (hts (.fieldLink RX3 13 "LampLine$Row" "size" "I") (by decide +kernel)) rfl (by decide +kernel) rfl rfl (Nat.le_of_ble_eq_true rfl) dX3_copyFrom_2 (fun H locs hW => ?_)
  refine lv_iconst (v := 0) hx hb dX3_copyFrom_5 (by decide) ?_
  refine lv_istore_n (lv' := [(2, .int 0), (0, .ref (ad (r0))), (1, .ref (ad (r1)))]) hx hb dX3_copyFrom_6 rfl hl (by decide) rfl (fun ls hl => ?_)
  exact hL7 (sI σ (r0) 1 0) 0 _ _ _  hW (lv_sub hl [1, 2, 0] rfl) hF
def F_X3_join_L73 (r0 : Nat) (r1 : Nat) (σ : St) : Option (St) := some σ
def F_X3_join_L2 (r0 : Nat) (r1 : Nat) (K73 : St → Option (St)) : Nat → St → Int32 → Option (St)
  | 0, _, _ => none
  | fz + 1, σ, u2 => if (σ.1 (r1) 1) ≤ u2 then K73 σ else if (Int32.ofNat (ln (r0 + 1))) ≤ u2 then K73 σ else if (σ.1 (r0) 1) ≤ u2 then gd (ib u2 (ln (r1 + 1))) (gd (ib u2 (ln (r0 + 1))) (F_X3_join_L2 r0 r1 K73 fz (sI (sI σ (r0 + 1) (Int32.toNatClampNeg u2) (σ.1 (r1 + 1) (Int32.toNatClampNeg u2))) (r0) 1 (((sI σ (r0 + 1) (Int32.toNatClampNeg u2) (σ.1 (r1 + 1) (Int32.toNatClampNeg u2))).1 (r0) 1) + 1)) (u2 + 1))) else gd (ib u2 (ln (r0 + 1))) (gd (ib u2 (ln (r1 + 1))) (gd (ib u2 (ln (r0 + 1))) (F_X3_join_L2 r0 r1 K73 fz (sI σ (r0 + 1) (Int32.toNatClampNeg u2) ((σ.1 (r0 + 1) (Int32.toNatClampNeg u2)) ||| (σ.1 (r1 + 1) (Int32.toNatClampNeg u2)))) (u2 + 1))))
def F_X3_join (r0 : Nat) (r1 : Nat) (σ : St) : Option (St) := F_X3_join_L2 r0 r1 (F_X3_join_L73 r0 r1) fu σ 0
set_option maxHeartbeats 4000000 in
set_option maxRecDepth 100000 in
theorem m_X3_join (l : Launch) (G : va_G) (g : Nat → ClassId) (ad : Nat → Nat) (n a0 aM : Nat) (r0 : Nat) (r1 : Nat) (σ : St) (x : St) (hr0 : isRow r0) (tr0 : r0 + 1 < tp n) (hr1 : isRow r1) (tr1 : r1 + 1 < tp n) (hF : F_X3_join r0 r1 σ = some x) : Met l yX3_join wsX3_join ({ frames := 0, cells := 0, slots := 0, locals := 0 } : Room) (va_Pc [.ref (ad (r0)), .ref (ad (r1))] (wP G g ad n a0 aM σ)) (qV G g ad n a0 x) 0 0 (fun q : Nat => a0 ≤ q) := by
  refine Met.ofW (cc := cX3_join) (maxL := 3) (ret := none) (by decide) rfl ?_
  intro p e s m args below meth c s₁ B hml hv
  obtain ⟨rfl, hP, hD, hK⟩ := hv
  have hx := B.exec
  have hb := B.bytes
  have hr := B.returns
  have hts := atoms_spec (ws := wsX3_join) B.pre
  have hown : s.vm.findClass RX3 = some m.cls := findClass_of_methodNamed B.named
  have hlocks := B.notSynchronized
  have hW : Wd G g ad n a0 s.heap σ s.heap [] := ⟨hP, hD, va_S.rf⟩
  clear hP hD
  have hL73 : ∀ (σ : St) (H : Heap) (locs : List Loc) (ls : Array Slot), Wd G g ad n a0 s.heap σ H locs → lv_has ls 3 [] → F_X3_join_L73 r0 r1  σ = some x → W p l e (headSpec wsX3_join ({ frames := 0, cells := 0, slots := 0, locals := 0 } : Room)).room s m ([.ref (ad (r0)), .ref (ad (r1))] : List Value).toArray below meth c H locs 0 0 (MQ below (qV G g ad n a0 x) ([.ref (ad (r0)), .ref (ad (r1))] : List Value).toArray s 0 0 (fun q : Nat => a0 ≤ q)) (F0 m 73 ls []) := by
    intro σ H locs ls hW hl hF
    unfold F_X3_join_L73 at hF
    exact r_vret hx hb hr hlocks hW hF dX3_join_73
  have hL2 : ∀ (fz : Nat) (σ : St) (u2 : Int32) (H : Heap) (locs : List Loc) (ls : Array Slot), Wd G g ad n a0 s.heap σ H locs → lv_has ls 3 [(0, .ref (ad (r0))), (1, .ref (ad (r1))), (2, .int u2)] → F_X3_join_L2 r0 r1 (F_X3_join_L73 r0 r1) fz σ u2 = some x → W p l e (headSpec wsX3_join ({ frames := 0, cells := 0, slots := 0, locals := 0 } : Room)).room s m ([.ref (ad (r0)), .ref (ad (r1))] : List Value).toArray below meth c H locs 0 0 (MQ below (qV G g ad n a0 x) ([.ref (ad (r0)), .ref (ad (r1))] : List Value).toArray s 0 0 (fun q : Nat => a0 ≤ q)) (F0 m 2 ls []) := by
    intro fz
    induction fz with
    | zero =>
      intro σ u2 H locs ls hW hl hF
      exact absurd hF (by simp [F_X3_join_L2])
    | succ fz ih =>
      have hB2 := ih
      intro σ u2 H locs ls hW hl hF
      unfold F_X3_join_L2 at hF
      refine lv_iload_n hx hb dX3_join_2 rfl (lv_at hl 2 rfl) ?_
      refine lv_aload_n hx hb dX3_join_3 rfl (lv_at hl 1 rfl) ?_
      refine r_get (C := RX3) (T := TX3) (N := 2) hx hb hts (by decide +kernel) hown hK hW (r1) (by omega) (cE_k hr1.1) rfl 1 (by decide) (hts (.fieldLink RX3 13 "LampLine$Row" "size" "I") (by decide +kernel)) rfl dX3_join_4 ?_
      refine lv_icmp_ge (tgt := 73) hx hb dX3_join_7 (by decide) (fun hc6 => ?_) (fun hc6 => ?_)
      · replace hF := (if_pos hc6).symm.trans hF
        exact hL73 σ _ _ _  hW (lv_sub hl [] rfl) hF
      · replace hF := (if_neg hc6).symm.trans hF
        refine lv_iload_n hx hb dX3_join_10 rfl (lv_at hl 2 rfl) ?_
        refine lv_aload_n hx hb dX3_join_11 rfl (lv_at hl 0 rfl) ?_
        refine r_get (C := RX3) (T := TX3) (N := 2) hx hb hts (by decide +kernel) hown hK hW (r0) (by omega) (cE_k hr0.1) rfl 0 (by decide) (hts (.fieldLink RX3 7 "LampLine$Row" "cells" "[I") (by decide +kernel)) rfl dX3_join_12 ?_
        refine r_ilen hx hb hK hW (r0 + 1) (by omega) hr0.2 dX3_join_15 ?_
        refine lv_icmp_ge (tgt := 73) hx hb dX3_join_16 (by decide) (fun hc7 => ?_) (fun hc7 => ?_)
        · replace hF := (if_pos hc7).symm.trans hF
          exact hL73 σ _ _ _  hW (lv_sub hl [] rfl) hF
        · replace hF := (if_neg hc7).symm.trans hF
          refine lv_iload_n hx hb dX3_join_19 rfl (lv_at hl 2 rfl) ?_
          refine lv_aload_n hx hb dX3_join_20 rfl (lv_at hl 0 rfl) ?_
          refine r_get (C := RX3) (T := TX3) (N := 2) hx hb hts (by decide +kernel) hown hK hW (r0) (by omega) (cE_k hr0.1) rfl 1 (by decide) (hts (.fieldLink RX3 13 "LampLine$Row" "size" "I") (by decide +kernel)) rfl dX3_join_21 ?_
          refine lv_icmp_ge (tgt := 45) hx hb dX3_join_24 (by decide) (fun hc8 => ?_) (fun hc8 => ?_)
          · replace hF := (if_pos hc8).symm.trans hF
            refine lv_aload_n hx hb dX3_join_45 rfl (lv_at hl 0 rfl) ?_
            refine r_get (C := RX3) (T := TX3) (N := 2) hx hb hts (by decide +kernel) hown hK hW (r0) (by omega) (cE_k hr0.1) rfl 0 (by decide) (hts (.fieldLink RX3 7 "LampLine$Row" "cells" "[I") (by decide +kernel)) rfl dX3_join_46 ?_
            refine lv_iload_n hx hb dX3_join_49 rfl (lv_at hl 2 rfl) ?_
            refine lv_aload_n hx hb dX3_join_50 rfl (lv_at hl 1 rfl) ?_
            refine r_get (C := RX3) (T := TX3) (N := 2) hx hb hts (by decide +kernel) hown hK hW (r1) (by omega) (cE_k hr1.1) rfl 0 (by decide) (hts (.fieldLink RX3 7 "LampLine$Row" "cells" "[I") (by decide +kernel)) rfl dX3_join_51 ?_
            refine lv_iload_n hx hb dX3_join_54 rfl (lv_at hl 2 rfl) ?_
            obtain ⟨hg9, hF⟩ := gd_some hF
            refine r_iald hx hb hK hW (r1 + 1) (by omega) hr1.2 hg9 dX3_join_55 ?_
            obtain ⟨hg10, hF⟩ := gd_some hF
            refine r_iast hx hb hK hW (r0 + 1) (by omega) hr0.2 hg10 dX3_join_56 (fun H locs hW => ?_)
            refine lv_aload_n hx hb dX3_join_57 rfl (lv_at hl 0 rfl) ?_
            refine lv_dup hx hb dX3_join_58 rfl ?_
            refine r_get (C := RX3) (T := TX3) (N := 2) hx hb hts (by decide +kernel) hown hK hW (r0) (by omega) (cE_k hr0.1) rfl 1 (by decide) (hts (.fieldLink RX3 13 "LampLine$Row" "size" "I") (by decide +kernel)) rfl dX3_join_59 ?_
            refine lv_iconst (v := 1) hx hb dX3_join_62 (by decide) ?_
            refine lv_iadd hx hb dX3_join_63 ?_
            refine r_putI (C := RX3) (T := TX3) (N := 2) (ty := .int) hx hb hts (by decide +kernel) tyX3 tyX3_ok nmX3 hown hK hW (r0) (by omega) (cE_k hr0.1) rfl 1 (by decide) (cE_k hr0.1) (hts (.fieldLink RX3 13 "LampLine$Row" "size" "I") (by decide +kernel)) rfl (by decide +kernel) rfl rfl (Nat.le_of_ble_eq_true rfl) dX3_join_64 (fun H locs hW => ?_)
            refine lv_iinc (v := (u2 + 1)) (lv' := [(2, .int (u2 + 1)), (0, .ref (ad (r0))), (1, .ref (ad (r1)))]) hx hb dX3_join_67 hl (k := 2) rfl rfl (by decide) rfl (fun ls hl => ?_)
            refine lv_goto (tgt := 2) hx hb dX3_join_70 (by decide) ?_
            exact hB2 (sI (sI σ (r0 + 1) (Int32.toNatClampNeg u2) (σ.1 (r1 + 1) (Int32.toNatClampNeg u2))) (r0) 1 (((sI σ (r0 + 1) (Int32.toNatClampNeg u2) (σ.1 (r1 + 1) (Int32.toNatClampNeg u2))).1 (r0) 1) + 1)) (u2 + 1) _ _ _  hW (lv_sub hl [1, 2, 0] rfl) hF
          · replace hF := (if_neg hc8).symm.trans hF
            refine lv_aload_n hx hb dX3_join_27 rfl (lv_at hl 0 rfl) ?_
            refine r_get (C := RX3) (T := TX3) (N := 2) hx hb hts (by decide +kernel) hown hK hW (r0) (by omega) (cE_k hr0.1) rfl 0 (by decide) (hts (.fieldLink RX3 7 "LampLine$Row" "cells" "[I") (by decide +kernel)) rfl dX3_join_28 ?_
            refine lv_iload_n hx hb dX3_join_31 rfl (lv_at hl 2 rfl) ?_
            refine lv_dup2_11 hx hb dX3_join_32 rfl rfl ?_
            obtain ⟨hg11, hF⟩ := gd_some hF
            refine r_iald hx hb hK hW (r0 + 1) (by omega) hr0.2 hg11 dX3_join_33 ?_
            refine lv_aload_n hx hb dX3_join_34 rfl (lv_at hl 1 rfl) ?_
            refine r_get (C := RX3) (T := TX3) (N := 2) hx hb hts (by decide +kernel) hown hK hW (r1) (by omega) (cE_k hr1.1) rfl 0 (by decide) (hts (.fieldLink RX3 7 "LampLine$Row" "cells" "[I") (by decide +kernel)) rfl dX3_join_35 ?_
            refine lv_iload_n hx hb dX3_join_38 rfl (lv_at hl 2 rfl) ?_
            obtain ⟨hg12, hF⟩ := gd_some hF
            refine r_iald hx hb hK hW (r1 + 1) (by omega) hr1.2 hg12 dX3_join_39 ?_
            refine lv_ior hx hb dX3_join_40 ?_
            obtain ⟨hg13, hF⟩ := gd_some hF
            refine r_iast hx hb hK hW (r0 + 1) (by omega) hr0.2 hg13 dX3_join_41 (fun H locs hW => ?_)
            refine lv_goto (tgt := 67) hx hb dX3_join_42 (by decide) ?_
            refine lv_iinc (v := (u2 + 1)) (lv' := [(2, .int (u2 + 1)), (0, .ref (ad (r0))), (1, .ref (ad (r1)))]) hx hb dX3_join_67 hl (k := 2) rfl rfl (by decide) rfl (fun ls hl => ?_)
            refine lv_goto (tgt := 2) hx hb dX3_join_70 (by decide) ?_
            exact hB2 (sI σ (r0 + 1) (Int32.toNatClampNeg u2) ((σ.1 (r0 + 1) (Int32.toNatClampNeg u2)) ||| (σ.1 (r1 + 1) (Int32.toNatClampNeg u2)))) (u2 + 1) _ _ _  hW (lv_sub hl [1, 2, 0] rfl) hF
  have hL2 := hL2 fu
  have hl := lv_entry ([.ref (ad (r0)), .ref (ad (r1))]) (n := 3) (Nat.le_of_ble_eq_true rfl)
  rw [lg_entry_eq]
  generalize (lg_sl ([.ref (ad (r0)), .ref (ad (r1))]) ++ List.replicate (3 - (lg_sl ([.ref (ad (r0)), .ref (ad (r1))])).length) Slot.unset).toArray = ls at hl ⊢
  have hl : lv_has ls 3 [(0, .ref (ad (r0))), (1, .ref (ad (r1)))] := hl
  unfold F_X3_join at hF
  refine lv_iconst (v := 0) hx hb dX3_join_0 (by decide) ?_
  refine lv_istore_n (lv' := [(2, .int 0), (0, .ref (ad (r0))), (1, .ref (ad (r1)))]) hx hb dX3_join_1 rfl hl (by decide) rfl (fun ls hl => ?_)
  exact hL2 σ 0 _ _ _  hW (lv_sub hl [1, 2, 0] rfl) hF
def F_X3_flip (r0 : Nat) (σ : St) (x1 : Int32) (x2 : Int32) : Option (St) := if x1 < 0 then some σ else if (σ.1 (r0) 1) ≤ x1 then some σ else gd (ib x1 (ln (r0 + 1))) (gd (ib x1 (ln (r0 + 1))) (some (sI σ (r0 + 1) (Int32.toNatClampNeg x1) ((σ.1 (r0 + 1) (Int32.toNatClampNeg x1)) ^^^ (x2 &&& 255)))))
set_option maxHeartbeats 4000000 in
set_option maxRecDepth 100000 in
theorem m_X3_flip (l : Launch) (G : va_G) (g : Nat → ClassId) (ad : Nat → Nat) (n a0 aM : Nat) (r0 : Nat) (σ : St) (x1 : Int32) (x2 : Int32) (x : St) (hr0 : isRow r0) (tr0 : r0 + 1 < tp n) (hF : F_X3_flip r0 σ x1 x2 = some x) : Met l yX3_flip wsX3_flip ({ frames := 0, cells := 0, slots := 0, locals := 0 } : Room) (va_Pc [.ref (ad (r0)), .int x1, .int x2] (wP G g ad n a0 aM σ)) (qV G g ad n a0 x) 0 0 (fun q : Nat => a0 ≤ q) := by
  refine Met.ofW (cc := cX3_flip) (maxL := 3) (ret := none) (by decide) rfl ?_
  intro p e s m args below meth c s₁ B hml hv
  obtain ⟨rfl, hP, hD, hK⟩ := hv
  have hx := B.exec
  have hb := B.bytes
  have hr := B.returns
  have hts := atoms_spec (ws := wsX3_flip) B.pre
  have hown : s.vm.findClass RX3 = some m.cls := findClass_of_methodNamed B.named
  have hlocks := B.notSynchronized
  have hW : Wd G g ad n a0 s.heap σ s.heap [] := ⟨hP, hD, va_S.rf⟩
  clear hP hD
  have hl := lv_entry ([.ref (ad (r0)), .int x1, .int x2]) (n := 3) (Nat.le_of_ble_eq_true rfl)
  rw [lg_entry_eq]
  generalize (lg_sl ([.ref (ad (r0)), .int x1, .int x2]) ++ List.replicate (3 - (lg_sl ([.ref (ad (r0)), .int x1, .int x2])).length) Slot.unset).toArray = ls at hl ⊢
  have hl : lv_has ls 3 [(0, .ref (ad (r0))), (1, .int x1), (2, .int x2)] := hl
  unfold F_X3_flip at hF
  refine lv_iload_n hx hb dX3_flip_0 rfl (lv_at hl 1 rfl) ?_
  refine lv_if_lt (tgt := 26) hx hb dX3_flip_1 (by decide) (fun hc3 => ?_) (fun hc3 => ?_)
  · replace hF := (if_pos hc3).symm.trans hF
    exact r_vret hx hb hr hlocks hW hF dX3_flip_26
  · replace hF := (if_neg hc3).symm.trans hF
    refine lv_iload_n hx hb dX3_flip_4 rfl (lv_at hl 1 rfl) ?_
    refine lv_aload_n hx hb dX3_flip_5 rfl (lv_at hl 0 rfl) ?_
    refine r_get (C := RX3) (T := TX3) (N := 2) hx hb hts (by decide +kernel) hown hK hW (r0) (by omega) (cE_k hr0.1) rfl 1 (by decide) (hts (.fieldLink RX3 13 "LampLine$Row" "size" "I") (by decide +kernel)) rfl dX3_flip_6 ?_
    refine lv_icmp_ge (tgt := 26) hx hb dX3_flip_9 (by decide) (fun hc4 => ?_) (fun hc4 => ?_)
    · replace hF := (if_pos hc4).symm.trans hF
      exact r_vret hx hb hr hlocks hW hF dX3_flip_26
    · replace hF := (if_neg hc4).symm.trans hF
      refine lv_aload_n hx hb dX3_flip_12 rfl (lv_at hl 0 rfl) ?_
      refine r_get (C := RX3) (T := TX3) (N := 2) hx hb hts (by decide +kernel) hown hK hW (r0) (by omega) (cE_k hr0.1) rfl 0 (by decide) (hts (.fieldLink RX3 7 "LampLine$Row" "cells" "[I") (by decide +kernel)) rfl dX3_flip_13 ?_
      refine lv_iload_n hx hb dX3_flip_16 rfl (lv_at hl 1 rfl) ?_
      refine lv_dup2_11 hx hb dX3_flip_17 rfl rfl ?_
      obtain ⟨hg5, hF⟩ := gd_some hF
      refine r_iald hx hb hK hW (r0 + 1) (by omega) hr0.2 hg5 dX3_flip_18 ?_
      refine lv_iload_n hx hb dX3_flip_19 rfl (lv_at hl 2 rfl) ?_
      refine lv_sipush (v := 255) hx hb dX3_flip_20 (by decide) ?_
      refine lv_iand hx hb dX3_flip_23 ?_
      refine lv_ixor hx hb dX3_flip_24 ?_
      obtain ⟨hg6, hF⟩ := gd_some hF
      refine r_iast hx hb hK hW (r0 + 1) (by omega) hr0.2 hg6 dX3_flip_25 (fun H locs hW => ?_)
      exact r_vret hx hb hr hlocks hW hF dX3_flip_26
end
