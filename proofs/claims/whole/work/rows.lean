section
-- ===== PART A: goes FIRST, ahead of the names: the tables' words, and 'selects' of the private methods out of them =====
/-- a private method of a class that the tables say can be made, by its rows of tables_1 -/
def lw_okq (q : MethodName × Nat) : Prop := (q.1.cls ≠ "java/lang/invoke/MethodHandle" ∧ q.1.cls ≠ "java/lang/invoke/VarHandle") ∧ Cond.instantiable q.1.cls q.2 ∈ tables_1 ∧ Cond.privateMethod q.1 ∈ tables_1 ∧ Cond.instanceMethod q.1 ∈ tables_1
theorem lw_p0 : lw_okq (⟨"LampLine", "runFrame", "()V"⟩, 13) := ⟨⟨by decide +kernel, by decide +kernel⟩, List.mem_of_getElem? (i := 17) (by decide +kernel), List.mem_of_getElem? (i := 194) (by decide +kernel), List.mem_of_getElem? (i := 195) (by decide +kernel)⟩
theorem lw_p1 : lw_okq (⟨"LampLine$Lamp", "speaksToSearch", "(LLampLine$Packet;LLampLine$Packet;LLampLine$Row;)Z"⟩, 15) := ⟨⟨by decide +kernel, by decide +kernel⟩, List.mem_of_getElem? (i := 264) (by decide +kernel), List.mem_of_getElem? (i := 262) (by decide +kernel), List.mem_of_getElem? (i := 263) (by decide +kernel)⟩
theorem lw_p2 : lw_okq (⟨"LampLine$Lamp", "speaksToOrder", "(LLampLine$Packet;LLampLine$Packet;LLampLine$Row;I)Z"⟩, 15) := ⟨⟨by decide +kernel, by decide +kernel⟩, List.mem_of_getElem? (i := 264) (by decide +kernel), List.mem_of_getElem? (i := 293) (by decide +kernel), List.mem_of_getElem? (i := 294) (by decide +kernel)⟩
theorem lw_p3 : lw_okq (⟨"LampLine$Lamp", "valueRefusal", "(LLampLine$Packet;Z)I"⟩, 15) := ⟨⟨by decide +kernel, by decide +kernel⟩, List.mem_of_getElem? (i := 264) (by decide +kernel), List.mem_of_getElem? (i := 305) (by decide +kernel), List.mem_of_getElem? (i := 306) (by decide +kernel)⟩
theorem lw_p4 : lw_okq (⟨"LampLine$Lamp", "obey", "(LLampLine$Packet;LLampLine$Packet;ZI)V"⟩, 15) := ⟨⟨by decide +kernel, by decide +kernel⟩, List.mem_of_getElem? (i := 264) (by decide +kernel), List.mem_of_getElem? (i := 316) (by decide +kernel), List.mem_of_getElem? (i := 317) (by decide +kernel)⟩
theorem lw_p5 : lw_okq (⟨"LampLine$Lamp", "tell", "(ILLampLine$Packet;)V"⟩, 15) := ⟨⟨by decide +kernel, by decide +kernel⟩, List.mem_of_getElem? (i := 264) (by decide +kernel), List.mem_of_getElem? (i := 321) (by decide +kernel), List.mem_of_getElem? (i := 322) (by decide +kernel)⟩
theorem lw_p6 : lw_okq (⟨"LampLine", "writeSearch", "(JI)V"⟩, 13) := ⟨⟨by decide +kernel, by decide +kernel⟩, List.mem_of_getElem? (i := 17) (by decide +kernel), List.mem_of_getElem? (i := 359) (by decide +kernel), List.mem_of_getElem? (i := 360) (by decide +kernel)⟩
theorem lw_p7 : lw_okq (⟨"LampLine", "beginQuestion", "(JII)V"⟩, 13) := ⟨⟨by decide +kernel, by decide +kernel⟩, List.mem_of_getElem? (i := 17) (by decide +kernel), List.mem_of_getElem? (i := 363) (by decide +kernel), List.mem_of_getElem? (i := 364) (by decide +kernel)⟩
theorem lw_p8 : lw_okq (⟨"java/lang/Throwable", "fillInStackTrace", "(I)Ljava/lang/Throwable;"⟩, 6) := ⟨⟨by decide +kernel, by decide +kernel⟩, List.mem_of_getElem? (i := 420) (by decide +kernel), List.mem_of_getElem? (i := 418) (by decide +kernel), List.mem_of_getElem? (i := 419) (by decide +kernel)⟩
theorem lw_p9 : lw_okq (⟨"LampLine", "isThere", "(J)Z"⟩, 13) := ⟨⟨by decide +kernel, by decide +kernel⟩, List.mem_of_getElem? (i := 17) (by decide +kernel), List.mem_of_getElem? (i := 456) (by decide +kernel), List.mem_of_getElem? (i := 457) (by decide +kernel)⟩
theorem lw_p10 : lw_okq (⟨"LampLine", "isReplyFrom", "(J)Z"⟩, 13) := ⟨⟨by decide +kernel, by decide +kernel⟩, List.mem_of_getElem? (i := 17) (by decide +kernel), List.mem_of_getElem? (i := 585) (by decide +kernel), List.mem_of_getElem? (i := 586) (by decide +kernel)⟩
theorem lw_p11 : lw_okq (⟨"LampLine$Spoils", "dropFirst", "()V"⟩, 3) := ⟨⟨by decide +kernel, by decide +kernel⟩, List.mem_of_getElem? (i := 90) (by decide +kernel), List.mem_of_getElem? (i := 601) (by decide +kernel), List.mem_of_getElem? (i := 602) (by decide +kernel)⟩
theorem lw_p12 : lw_okq (⟨"LampLine", "lampAt", "(I)LLampLine$Lamp;"⟩, 13) := ⟨⟨by decide +kernel, by decide +kernel⟩, List.mem_of_getElem? (i := 17) (by decide +kernel), List.mem_of_getElem? (i := 612) (by decide +kernel), List.mem_of_getElem? (i := 613) (by decide +kernel)⟩
theorem lw_p13 : lw_okq (⟨"LampLine$Lamp", "isDark", "(I)Z"⟩, 15) := ⟨⟨by decide +kernel, by decide +kernel⟩, List.mem_of_getElem? (i := 264) (by decide +kernel), List.mem_of_getElem? (i := 622) (by decide +kernel), List.mem_of_getElem? (i := 623) (by decide +kernel)⟩
theorem lw_p14 : lw_okq (⟨"LampLine", "takeStep", "()V"⟩, 13) := ⟨⟨by decide +kernel, by decide +kernel⟩, List.mem_of_getElem? (i := 17) (by decide +kernel), List.mem_of_getElem? (i := 672) (by decide +kernel), List.mem_of_getElem? (i := 673) (by decide +kernel)⟩
theorem lw_p15 : lw_okq (⟨"LampLine", "tryId", "(J)I"⟩, 13) := ⟨⟨by decide +kernel, by decide +kernel⟩, List.mem_of_getElem? (i := 17) (by decide +kernel), List.mem_of_getElem? (i := 689) (by decide +kernel), List.mem_of_getElem? (i := 690) (by decide +kernel)⟩
def lw_privs_1 : List (MethodName × Nat) := [(⟨"LampLine", "runFrame", "()V"⟩, 13), (⟨"LampLine$Lamp", "speaksToSearch", "(LLampLine$Packet;LLampLine$Packet;LLampLine$Row;)Z"⟩, 15), (⟨"LampLine$Lamp", "speaksToOrder", "(LLampLine$Packet;LLampLine$Packet;LLampLine$Row;I)Z"⟩, 15), (⟨"LampLine$Lamp", "valueRefusal", "(LLampLine$Packet;Z)I"⟩, 15), (⟨"LampLine$Lamp", "obey", "(LLampLine$Packet;LLampLine$Packet;ZI)V"⟩, 15), (⟨"LampLine$Lamp", "tell", "(ILLampLine$Packet;)V"⟩, 15), (⟨"LampLine", "writeSearch", "(JI)V"⟩, 13), (⟨"LampLine", "beginQuestion", "(JII)V"⟩, 13), (⟨"java/lang/Throwable", "fillInStackTrace", "(I)Ljava/lang/Throwable;"⟩, 6), (⟨"LampLine", "isThere", "(J)Z"⟩, 13), (⟨"LampLine", "isReplyFrom", "(J)Z"⟩, 13), (⟨"LampLine$Spoils", "dropFirst", "()V"⟩, 3), (⟨"LampLine", "lampAt", "(I)LLampLine$Lamp;"⟩, 13), (⟨"LampLine$Lamp", "isDark", "(I)Z"⟩, 15), (⟨"LampLine", "takeStep", "()V"⟩, 13), (⟨"LampLine", "tryId", "(J)I"⟩, 13)]
theorem lw_r1 : ∀ q ∈ lw_privs_1, lw_okq q := List.forall_mem_cons.mpr ⟨lw_p0, List.forall_mem_cons.mpr ⟨lw_p1, List.forall_mem_cons.mpr ⟨lw_p2, List.forall_mem_cons.mpr ⟨lw_p3, List.forall_mem_cons.mpr ⟨lw_p4, List.forall_mem_cons.mpr ⟨lw_p5, List.forall_mem_cons.mpr ⟨lw_p6, List.forall_mem_cons.mpr ⟨lw_p7, List.forall_mem_cons.mpr ⟨lw_p8, List.forall_mem_cons.mpr ⟨lw_p9, List.forall_mem_cons.mpr ⟨lw_p10, List.forall_mem_cons.mpr ⟨lw_p11, List.forall_mem_cons.mpr ⟨lw_p12, List.forall_mem_cons.mpr ⟨lw_p13, List.forall_mem_cons.mpr ⟨lw_p14, List.forall_mem_cons.mpr ⟨lw_p15, fun _ h => absurd h List.not_mem_nil⟩⟩⟩⟩⟩⟩⟩⟩⟩⟩⟩⟩⟩⟩⟩⟩
theorem lw_p16 : lw_okq (⟨"LampLine", "writeBranchSearch", "(JJ)V"⟩, 13) := ⟨⟨by decide +kernel, by decide +kernel⟩, List.mem_of_getElem? (i := 17) (by decide +kernel), List.mem_of_getElem? (i := 702) (by decide +kernel), List.mem_of_getElem? (i := 703) (by decide +kernel)⟩
theorem lw_p17 : lw_okq (⟨"LampLineModel", "goes", "(Z)Z"⟩, 39) := ⟨⟨by decide +kernel, by decide +kernel⟩, List.mem_of_getElem? (i := 730) (by decide +kernel), List.mem_of_getElem? (i := 874) (by decide +kernel), List.mem_of_getElem? (i := 875) (by decide +kernel)⟩
theorem lw_p18 : lw_okq (⟨"LampLineModel", "look", "()V"⟩, 39) := ⟨⟨by decide +kernel, by decide +kernel⟩, List.mem_of_getElem? (i := 730) (by decide +kernel), List.mem_of_getElem? (i := 886) (by decide +kernel), List.mem_of_getElem? (i := 887) (by decide +kernel)⟩
theorem lw_p19 : lw_okq (⟨"LampLineModel", "doDue", "()V"⟩, 39) := ⟨⟨by decide +kernel, by decide +kernel⟩, List.mem_of_getElem? (i := 730) (by decide +kernel), List.mem_of_getElem? (i := 890) (by decide +kernel), List.mem_of_getElem? (i := 891) (by decide +kernel)⟩
theorem lw_p20 : lw_okq (⟨"LampLineModel", "at", "(I)I"⟩, 39) := ⟨⟨by decide +kernel, by decide +kernel⟩, List.mem_of_getElem? (i := 730) (by decide +kernel), List.mem_of_getElem? (i := 894) (by decide +kernel), List.mem_of_getElem? (i := 895) (by decide +kernel)⟩
theorem lw_p21 : lw_okq (⟨"LampLineModel", "takeLevels", "(I)V"⟩, 39) := ⟨⟨by decide +kernel, by decide +kernel⟩, List.mem_of_getElem? (i := 730) (by decide +kernel), List.mem_of_getElem? (i := 898) (by decide +kernel), List.mem_of_getElem? (i := 899) (by decide +kernel)⟩
theorem lw_p22 : lw_okq (⟨"LampLineModel", "footprint", "(I)I"⟩, 39) := ⟨⟨by decide +kernel, by decide +kernel⟩, List.mem_of_getElem? (i := 730) (by decide +kernel), List.mem_of_getElem? (i := 902) (by decide +kernel), List.mem_of_getElem? (i := 903) (by decide +kernel)⟩
theorem lw_p23 : lw_okq (⟨"LampLineModel", "isPacket", "()Z"⟩, 39) := ⟨⟨by decide +kernel, by decide +kernel⟩, List.mem_of_getElem? (i := 730) (by decide +kernel), List.mem_of_getElem? (i := 906) (by decide +kernel), List.mem_of_getElem? (i := 907) (by decide +kernel)⟩
theorem lw_p24 : lw_okq (⟨"LampLineModel", "two", "(I)I"⟩, 39) := ⟨⟨by decide +kernel, by decide +kernel⟩, List.mem_of_getElem? (i := 730) (by decide +kernel), List.mem_of_getElem? (i := 911) (by decide +kernel), List.mem_of_getElem? (i := 912) (by decide +kernel)⟩
theorem lw_p25 : lw_okq (⟨"LampLineModel", "six", "(I)J"⟩, 39) := ⟨⟨by decide +kernel, by decide +kernel⟩, List.mem_of_getElem? (i := 730) (by decide +kernel), List.mem_of_getElem? (i := 915) (by decide +kernel), List.mem_of_getElem? (i := 916) (by decide +kernel)⟩
theorem lw_p26 : lw_okq (⟨"LampLineModel", "ownId", "(I)J"⟩, 39) := ⟨⟨by decide +kernel, by decide +kernel⟩, List.mem_of_getElem? (i := 730) (by decide +kernel), List.mem_of_getElem? (i := 920) (by decide +kernel), List.mem_of_getElem? (i := 921) (by decide +kernel)⟩
theorem lw_p27 : lw_okq (⟨"LampLineModel", "hear", "(IZ)V"⟩, 39) := ⟨⟨by decide +kernel, by decide +kernel⟩, List.mem_of_getElem? (i := 730) (by decide +kernel), List.mem_of_getElem? (i := 929) (by decide +kernel), List.mem_of_getElem? (i := 930) (by decide +kernel)⟩
theorem lw_p28 : lw_okq (⟨"LampLineModel", "hearSearch", "(IZ)V"⟩, 39) := ⟨⟨by decide +kernel, by decide +kernel⟩, List.mem_of_getElem? (i := 730) (by decide +kernel), List.mem_of_getElem? (i := 933) (by decide +kernel), List.mem_of_getElem? (i := 934) (by decide +kernel)⟩
theorem lw_p29 : lw_okq (⟨"LampLineModel", "show", "(J)V"⟩, 39) := ⟨⟨by decide +kernel, by decide +kernel⟩, List.mem_of_getElem? (i := 730) (by decide +kernel), List.mem_of_getElem? (i := 937) (by decide +kernel), List.mem_of_getElem? (i := 938) (by decide +kernel)⟩
theorem lw_p30 : lw_okq (⟨"LampLineModel", "put", "(I)V"⟩, 39) := ⟨⟨by decide +kernel, by decide +kernel⟩, List.mem_of_getElem? (i := 730) (by decide +kernel), List.mem_of_getElem? (i := 941) (by decide +kernel), List.mem_of_getElem? (i := 942) (by decide +kernel)⟩
theorem lw_p31 : lw_okq (⟨"LampLineModel", "begin", "(IIII)V"⟩, 39) := ⟨⟨by decide +kernel, by decide +kernel⟩, List.mem_of_getElem? (i := 730) (by decide +kernel), List.mem_of_getElem? (i := 945) (by decide +kernel), List.mem_of_getElem? (i := 946) (by decide +kernel)⟩
def lw_privs_2 : List (MethodName × Nat) := [(⟨"LampLine", "writeBranchSearch", "(JJ)V"⟩, 13), (⟨"LampLineModel", "goes", "(Z)Z"⟩, 39), (⟨"LampLineModel", "look", "()V"⟩, 39), (⟨"LampLineModel", "doDue", "()V"⟩, 39), (⟨"LampLineModel", "at", "(I)I"⟩, 39), (⟨"LampLineModel", "takeLevels", "(I)V"⟩, 39), (⟨"LampLineModel", "footprint", "(I)I"⟩, 39), (⟨"LampLineModel", "isPacket", "()Z"⟩, 39), (⟨"LampLineModel", "two", "(I)I"⟩, 39), (⟨"LampLineModel", "six", "(I)J"⟩, 39), (⟨"LampLineModel", "ownId", "(I)J"⟩, 39), (⟨"LampLineModel", "hear", "(IZ)V"⟩, 39), (⟨"LampLineModel", "hearSearch", "(IZ)V"⟩, 39), (⟨"LampLineModel", "show", "(J)V"⟩, 39), (⟨"LampLineModel", "put", "(I)V"⟩, 39), (⟨"LampLineModel", "begin", "(IIII)V"⟩, 39)]
theorem lw_r2 : ∀ q ∈ lw_privs_2, lw_okq q := List.forall_mem_cons.mpr ⟨lw_p16, List.forall_mem_cons.mpr ⟨lw_p17, List.forall_mem_cons.mpr ⟨lw_p18, List.forall_mem_cons.mpr ⟨lw_p19, List.forall_mem_cons.mpr ⟨lw_p20, List.forall_mem_cons.mpr ⟨lw_p21, List.forall_mem_cons.mpr ⟨lw_p22, List.forall_mem_cons.mpr ⟨lw_p23, List.forall_mem_cons.mpr ⟨lw_p24, List.forall_mem_cons.mpr ⟨lw_p25, List.forall_mem_cons.mpr ⟨lw_p26, List.forall_mem_cons.mpr ⟨lw_p27, List.forall_mem_cons.mpr ⟨lw_p28, List.forall_mem_cons.mpr ⟨lw_p29, List.forall_mem_cons.mpr ⟨lw_p30, List.forall_mem_cons.mpr ⟨lw_p31, fun _ h => absurd h List.not_mem_nil⟩⟩⟩⟩⟩⟩⟩⟩⟩⟩⟩⟩⟩⟩⟩⟩
theorem lw_p32 : lw_okq (⟨"LampLineModel", "putId", "(J)V"⟩, 39) := ⟨⟨by decide +kernel, by decide +kernel⟩, List.mem_of_getElem? (i := 730) (by decide +kernel), List.mem_of_getElem? (i := 949) (by decide +kernel), List.mem_of_getElem? (i := 950) (by decide +kernel)⟩
theorem lw_p33 : lw_okq (⟨"LampLineModel", "putTwo", "(I)V"⟩, 39) := ⟨⟨by decide +kernel, by decide +kernel⟩, List.mem_of_getElem? (i := 730) (by decide +kernel), List.mem_of_getElem? (i := 953) (by decide +kernel), List.mem_of_getElem? (i := 954) (by decide +kernel)⟩
theorem lw_p34 : lw_okq (⟨"LampLineModel", "finish", "(I)V"⟩, 39) := ⟨⟨by decide +kernel, by decide +kernel⟩, List.mem_of_getElem? (i := 730) (by decide +kernel), List.mem_of_getElem? (i := 957) (by decide +kernel), List.mem_of_getElem? (i := 958) (by decide +kernel)⟩
theorem lw_p35 : lw_okq (⟨"LampLineModel", "waiting", "(I)I"⟩, 39) := ⟨⟨by decide +kernel, by decide +kernel⟩, List.mem_of_getElem? (i := 730) (by decide +kernel), List.mem_of_getElem? (i := 961) (by decide +kernel), List.mem_of_getElem? (i := 962) (by decide +kernel)⟩
theorem lw_p36 : lw_okq (⟨"LampLineModel", "get", "(I)V"⟩, 39) := ⟨⟨by decide +kernel, by decide +kernel⟩, List.mem_of_getElem? (i := 730) (by decide +kernel), List.mem_of_getElem? (i := 965) (by decide +kernel), List.mem_of_getElem? (i := 966) (by decide +kernel)⟩
theorem lw_p37 : lw_okq (⟨"LampLineModel", "refuse", "(IZI)V"⟩, 39) := ⟨⟨by decide +kernel, by decide +kernel⟩, List.mem_of_getElem? (i := 730) (by decide +kernel), List.mem_of_getElem? (i := 969) (by decide +kernel), List.mem_of_getElem? (i := 970) (by decide +kernel)⟩
theorem lw_p38 : lw_okq (⟨"LampLineModel", "getWaiting", "(I)V"⟩, 39) := ⟨⟨by decide +kernel, by decide +kernel⟩, List.mem_of_getElem? (i := 730) (by decide +kernel), List.mem_of_getElem? (i := 976) (by decide +kernel), List.mem_of_getElem? (i := 977) (by decide +kernel)⟩
theorem lw_p39 : lw_okq (⟨"LampLineModel", "tell", "(II)V"⟩, 39) := ⟨⟨by decide +kernel, by decide +kernel⟩, List.mem_of_getElem? (i := 730) (by decide +kernel), List.mem_of_getElem? (i := 980) (by decide +kernel), List.mem_of_getElem? (i := 981) (by decide +kernel)⟩
theorem lw_p40 : lw_okq (⟨"LampLineModel", "set", "(IZ)V"⟩, 39) := ⟨⟨by decide +kernel, by decide +kernel⟩, List.mem_of_getElem? (i := 730) (by decide +kernel), List.mem_of_getElem? (i := 984) (by decide +kernel), List.mem_of_getElem? (i := 985) (by decide +kernel)⟩
theorem lw_p41 : lw_okq (⟨"LampLineModel", "mayBe", "(III)Z"⟩, 39) := ⟨⟨by decide +kernel, by decide +kernel⟩, List.mem_of_getElem? (i := 730) (by decide +kernel), List.mem_of_getElem? (i := 989) (by decide +kernel), List.mem_of_getElem? (i := 990) (by decide +kernel)⟩
theorem lw_p42 : lw_okq (⟨"LampLineModel", "setLabel", "(IZI)V"⟩, 39) := ⟨⟨by decide +kernel, by decide +kernel⟩, List.mem_of_getElem? (i := 730) (by decide +kernel), List.mem_of_getElem? (i := 995) (by decide +kernel), List.mem_of_getElem? (i := 996) (by decide +kernel)⟩
theorem lw_p43 : lw_okq (⟨"LampLineModel", "fall", "()V"⟩, 39) := ⟨⟨by decide +kernel, by decide +kernel⟩, List.mem_of_getElem? (i := 730) (by decide +kernel), List.mem_of_getElem? (i := 999) (by decide +kernel), List.mem_of_getElem? (i := 1000) (by decide +kernel)⟩
theorem lw_p44 : lw_okq (⟨"LampLineModel", "beginPacket", "(JIII)V"⟩, 39) := ⟨⟨by decide +kernel, by decide +kernel⟩, List.mem_of_getElem? (i := 730) (by decide +kernel), List.mem_of_getElem? (i := 1012) (by decide +kernel), List.mem_of_getElem? (i := 1013) (by decide +kernel)⟩
theorem lw_p45 : lw_okq (⟨"LampLineModel", "write", "(I)V"⟩, 39) := ⟨⟨by decide +kernel, by decide +kernel⟩, List.mem_of_getElem? (i := 730) (by decide +kernel), List.mem_of_getElem? (i := 1016) (by decide +kernel), List.mem_of_getElem? (i := 1017) (by decide +kernel)⟩
theorem lw_p46 : lw_okq (⟨"LampLineModel", "writeSix", "(J)V"⟩, 39) := ⟨⟨by decide +kernel, by decide +kernel⟩, List.mem_of_getElem? (i := 730) (by decide +kernel), List.mem_of_getElem? (i := 1020) (by decide +kernel), List.mem_of_getElem? (i := 1021) (by decide +kernel)⟩
theorem lw_p47 : lw_okq (⟨"LampLineModel", "sendOff", "()V"⟩, 39) := ⟨⟨by decide +kernel, by decide +kernel⟩, List.mem_of_getElem? (i := 730) (by decide +kernel), List.mem_of_getElem? (i := 1024) (by decide +kernel), List.mem_of_getElem? (i := 1025) (by decide +kernel)⟩
def lw_privs_3 : List (MethodName × Nat) := [(⟨"LampLineModel", "putId", "(J)V"⟩, 39), (⟨"LampLineModel", "putTwo", "(I)V"⟩, 39), (⟨"LampLineModel", "finish", "(I)V"⟩, 39), (⟨"LampLineModel", "waiting", "(I)I"⟩, 39), (⟨"LampLineModel", "get", "(I)V"⟩, 39), (⟨"LampLineModel", "refuse", "(IZI)V"⟩, 39), (⟨"LampLineModel", "getWaiting", "(I)V"⟩, 39), (⟨"LampLineModel", "tell", "(II)V"⟩, 39), (⟨"LampLineModel", "set", "(IZ)V"⟩, 39), (⟨"LampLineModel", "mayBe", "(III)Z"⟩, 39), (⟨"LampLineModel", "setLabel", "(IZI)V"⟩, 39), (⟨"LampLineModel", "fall", "()V"⟩, 39), (⟨"LampLineModel", "beginPacket", "(JIII)V"⟩, 39), (⟨"LampLineModel", "write", "(I)V"⟩, 39), (⟨"LampLineModel", "writeSix", "(J)V"⟩, 39), (⟨"LampLineModel", "sendOff", "()V"⟩, 39)]
theorem lw_r3 : ∀ q ∈ lw_privs_3, lw_okq q := List.forall_mem_cons.mpr ⟨lw_p32, List.forall_mem_cons.mpr ⟨lw_p33, List.forall_mem_cons.mpr ⟨lw_p34, List.forall_mem_cons.mpr ⟨lw_p35, List.forall_mem_cons.mpr ⟨lw_p36, List.forall_mem_cons.mpr ⟨lw_p37, List.forall_mem_cons.mpr ⟨lw_p38, List.forall_mem_cons.mpr ⟨lw_p39, List.forall_mem_cons.mpr ⟨lw_p40, List.forall_mem_cons.mpr ⟨lw_p41, List.forall_mem_cons.mpr ⟨lw_p42, List.forall_mem_cons.mpr ⟨lw_p43, List.forall_mem_cons.mpr ⟨lw_p44, List.forall_mem_cons.mpr ⟨lw_p45, List.forall_mem_cons.mpr ⟨lw_p46, List.forall_mem_cons.mpr ⟨lw_p47, fun _ h => absurd h List.not_mem_nil⟩⟩⟩⟩⟩⟩⟩⟩⟩⟩⟩⟩⟩⟩⟩⟩
theorem lw_p48 : lw_okq (⟨"LampLineModel", "isReply", "(J)Z"⟩, 39) := ⟨⟨by decide +kernel, by decide +kernel⟩, List.mem_of_getElem? (i := 730) (by decide +kernel), List.mem_of_getElem? (i := 1028) (by decide +kernel), List.mem_of_getElem? (i := 1029) (by decide +kernel)⟩
theorem lw_p49 : lw_okq (⟨"LampLineModel", "heard", "(I)I"⟩, 39) := ⟨⟨by decide +kernel, by decide +kernel⟩, List.mem_of_getElem? (i := 730) (by decide +kernel), List.mem_of_getElem? (i := 1032) (by decide +kernel), List.mem_of_getElem? (i := 1033) (by decide +kernel)⟩
theorem lw_p50 : lw_okq (⟨"LampLineModel", "heardSix", "(I)J"⟩, 39) := ⟨⟨by decide +kernel, by decide +kernel⟩, List.mem_of_getElem? (i := 730) (by decide +kernel), List.mem_of_getElem? (i := 1036) (by decide +kernel), List.mem_of_getElem? (i := 1037) (by decide +kernel)⟩
theorem lw_p51 : lw_okq (⟨"LampLineModel", "isLamp", "(I)Z"⟩, 39) := ⟨⟨by decide +kernel, by decide +kernel⟩, List.mem_of_getElem? (i := 730) (by decide +kernel), List.mem_of_getElem? (i := 1053) (by decide +kernel), List.mem_of_getElem? (i := 1054) (by decide +kernel)⟩
theorem lw_p52 : lw_okq (⟨"LampLineModel", "stepOnce", "()V"⟩, 39) := ⟨⟨by decide +kernel, by decide +kernel⟩, List.mem_of_getElem? (i := 730) (by decide +kernel), List.mem_of_getElem? (i := 1085) (by decide +kernel), List.mem_of_getElem? (i := 1086) (by decide +kernel)⟩
theorem lw_p53 : lw_okq (⟨"LampLineModel", "tried", "(J)I"⟩, 39) := ⟨⟨by decide +kernel, by decide +kernel⟩, List.mem_of_getElem? (i := 730) (by decide +kernel), List.mem_of_getElem? (i := 1092) (by decide +kernel), List.mem_of_getElem? (i := 1093) (by decide +kernel)⟩
theorem lw_p54 : lw_okq (⟨"LampLineModel", "isFound", "(J)Z"⟩, 39) := ⟨⟨by decide +kernel, by decide +kernel⟩, List.mem_of_getElem? (i := 730) (by decide +kernel), List.mem_of_getElem? (i := 1096) (by decide +kernel), List.mem_of_getElem? (i := 1097) (by decide +kernel)⟩
theorem lw_p55 : lw_okq (⟨"LampLineModel", "push", "(JJ)V"⟩, 39) := ⟨⟨by decide +kernel, by decide +kernel⟩, List.mem_of_getElem? (i := 730) (by decide +kernel), List.mem_of_getElem? (i := 1100) (by decide +kernel), List.mem_of_getElem? (i := 1101) (by decide +kernel)⟩
theorem lw_p56 : lw_okq (⟨"LampLineModel", "shown", "()J"⟩, 39) := ⟨⟨by decide +kernel, by decide +kernel⟩, List.mem_of_getElem? (i := 730) (by decide +kernel), List.mem_of_getElem? (i := 1104) (by decide +kernel), List.mem_of_getElem? (i := 1105) (by decide +kernel)⟩
def lw_privs_4 : List (MethodName × Nat) := [(⟨"LampLineModel", "isReply", "(J)Z"⟩, 39), (⟨"LampLineModel", "heard", "(I)I"⟩, 39), (⟨"LampLineModel", "heardSix", "(I)J"⟩, 39), (⟨"LampLineModel", "isLamp", "(I)Z"⟩, 39), (⟨"LampLineModel", "stepOnce", "()V"⟩, 39), (⟨"LampLineModel", "tried", "(J)I"⟩, 39), (⟨"LampLineModel", "isFound", "(J)Z"⟩, 39), (⟨"LampLineModel", "push", "(JJ)V"⟩, 39), (⟨"LampLineModel", "shown", "()J"⟩, 39)]
theorem lw_r4 : ∀ q ∈ lw_privs_4, lw_okq q := List.forall_mem_cons.mpr ⟨lw_p48, List.forall_mem_cons.mpr ⟨lw_p49, List.forall_mem_cons.mpr ⟨lw_p50, List.forall_mem_cons.mpr ⟨lw_p51, List.forall_mem_cons.mpr ⟨lw_p52, List.forall_mem_cons.mpr ⟨lw_p53, List.forall_mem_cons.mpr ⟨lw_p54, List.forall_mem_cons.mpr ⟨lw_p55, List.forall_mem_cons.mpr ⟨lw_p56, fun _ h => absurd h List.not_mem_nil⟩⟩⟩⟩⟩⟩⟩⟩⟩
def lw_privs : List (MethodName × Nat) := lw_privs_1 ++ (lw_privs_2 ++ (lw_privs_3 ++ (lw_privs_4)))
def lw_tbl : List Cond := k2_sels lw_privs ++ tables_1
theorem lw_privs_ok : ∀ q ∈ lw_privs, lw_okq q := by
  show ∀ q ∈ lw_privs_1 ++ (lw_privs_2 ++ (lw_privs_3 ++ (lw_privs_4))), lw_okq q
  exact List.forall_mem_append.mpr ⟨lw_r1, List.forall_mem_append.mpr ⟨lw_r2, List.forall_mem_append.mpr ⟨lw_r3, lw_r4⟩⟩⟩
end
section
/-! ===== BEGIN words of one list among another's, by their places ===== -/
theorem goodIn_r {big : List Cond} (ws : List Cond) (ps : List Nat) (hp : ws = ps.filterMap (fun i => big[i]?)) (h : ws.all goodWord = true) : GoodIn big ws := by
  intro w hw
  have h1 := List.all_eq_true.mp h w hw
  rw [hp] at hw
  obtain ⟨i, -, hi⟩ := List.mem_filterMap.mp hw
  have hm : w ∈ big := by first | exact List.mem_of_getElem? hi | exact List.getElem?_mem hi
  exact ⟨hm, good_of_word h1⟩
theorem goodIn_app {big a b : List Cond} (ha : GoodIn big a) (hb : GoodIn big b) : GoodIn big (a ++ b) := fun w h => (List.mem_append.mp h).elim (ha w) (hb w)
theorem goodIn_ca {big a b : List Cond} {c : Cond} (ha : GoodIn big (c :: a)) (hb : GoodIn big b) : GoodIn big (c :: (a ++ b)) := fun w h => (List.mem_cons.mp h).elim (fun e => ha w (List.mem_cons.mpr (Or.inl e))) (fun h => (List.mem_append.mp h).elim (fun h => ha w (List.mem_cons.mpr (Or.inr h))) (hb w))
theorem goodIn_sub {big ws : List Cond} (hm : ∀ w ∈ ws, w ∈ big) (h : ws.all goodWord = true) : GoodIn big ws := fun w hw => ⟨hm w hw, good_of_word (List.all_eq_true.mp h w hw)⟩
/-! ===== END ===== -/

/-! ===== BEGIN exceptions that leave a method, and their catching by the caller (launches without stack traces) ===== -/
section VXA
/-! The laws vx_back, vx_callV, vx_callS, vx_callSW, vx_throw0, vx_throwS follow proofs of the library, with one case more: JvmDerived/Free/Laws.lean (Back.of_free), Shelf42/LK1.lean (callV, callS), Shelf/KitTraced.lean (throwNew0V, throwNewS). -/
--
/-- where a method has thrown q: the class by its name, the cell, what was written, the world -/
def vx_T (XC : String → State → State → Prop) (st : State) (q : Addr) (t : State) (mc ms : Nat) (free : Addr → Prop) : Prop :=
  ∃ (E : String) (ce : Cell) (L : List Loc), XC E st t ∧ t.heap[q]? = some ce ∧ ce.vm = .none ∧ st.vm.findClass E = some ce.cls ∧ st.WarmedH t.vm ∧ st.sameButNew ({ t with vm := st.vm } : State) L mc ms ∧ ∀ z ∈ L, free z.base
def vx_Q (Qc : Array Value → State → Outcome → State → Prop) (XC : String → State → State → Prop) (mc ms : Nat) (free : Addr → Prop) : Array Value → State → Outcome → State → Prop := fun a st o t =>
  (Qc a st o t ∧ ∃ L, FrameEnd st o t L mc ms ∧ ∀ q ∈ L, free q.base) ∨ ∃ q, o = .threw q ∧ vx_T XC st q t mc ms free
/-- a callee that returns or throws -/
def vx_Met (l : Launch) (y : MethodName) (ws : List Cond) (rm : Room) (Pc : Array Value → State → Prop) (Qc : Array Value → State → Outcome → State → Prop) (XC : String → State → State → Prop) (mc ms : Nat) (free : Addr → Prop) : Prop :=
  MetFree l y (headSpec ws rm) Pc (fun _ _ _ _ _ => True) (vx_Q Qc XC mc ms free)
def vx_Post (XC : String → State → State → Prop) (mc ms : Nat) (free : Addr → Prop) : Pt → Array Value → Addr → Pt → Prop := fun A a q B =>
  ∃ (g : JFrame) (mk : MethodId) (t : State) (L : List Loc) (E : String) (ce : Cell), B.U.heap = t.heap ∧ B.U.vm = t.vm ∧ XC E (A.U.calling g mk a) t ∧ t.heap[q]? = some ce ∧ ce.vm = .none ∧ A.U.vm.findClass E = some ce.cls ∧ B.locs = A.locs ++ L ∧ (∀ z ∈ L, free z.base) ∧ B.cells = A.cells + mc ∧ B.slots = A.slots + ms
def vx_Back (l : Launch) (R : Room) (p : Program) (e : Env) (below : List Frame) (s : State) (sargs : Array Value) (y : MethodName) (len W9 : Nat)
    (Pre : Pt → Array Value → Prop) (Post : Pt → Array Value → Option Value → Pt → Prop) (PostX : Pt → Array Value → Addr → Pt → Prop) : Prop :=
  ∀ (m : MethodId) (meth : Method) (c : Code) (A : Pt) (g : JFrame) (ig : Instr) (mk : MethodId) (a : Array Value),
    Stand p l e R s m sargs below meth c A.U A.locs A.cells A.slots → g.method = m → g.locals.size = c.maxLocals → decode c.code g.pc = .ok (ig, len) →
    2 * g.monitorRoom + (g.stack.map fun v => v.category).sum ≤ W9 → A.U.methodNamed? y = some mk → Pre A a →
    (∃ (v : Option Value) (B : Pt), Stand p l e R s m sargs below meth c B.U B.locs B.cells B.slots ∧ Post A a v B ∧
      Steps p.tables e below (doInvoke e (A.U.setTop g) [] mk a).1 (B.U.setTop { g with pc := g.pc + len, stack := v.toList ++ g.stack })) ∨
    (∃ (q : Addr) (B : Pt), Stand p l e R s m sargs below meth c B.U B.locs B.cells B.slots ∧ PostX A a q B ∧
      Steps p.tables e below (doInvoke e (A.U.setTop g) [] mk a).1 ((B.U.setTop g).pushFrame (.throwing q)))
section Payer
variable {l : Launch} {R : Room} {p : Program} {e : Env} {below : List Frame} {s : State} {sargs : Array Value} {y : MethodName} {len W9 : Nat}
theorem vx_back {ws : List Cond} {rm : Room} {Pc : Array Value → State → Prop} {Qc : Array Value → State → Outcome → State → Prop} {XC : String → State → State → Prop} {mc ms : Nat} {free : Addr → Prop} {bytes : ByteArray} {maxL : Nat} {ret : Option FieldType}
    (hM : vx_Met l y ws rm Pc Qc XC mc ms free) (hblind : FrameBlind Pc) (hrc : rm.cells = mc) (hrs : rm.slots = ms)
    (hframes : rm.frames + 1 ≤ R.frames) (hlocals : W9 + (maxL + 11) + rm.locals ≤ R.locals)
    (hws : ∀ w ∈ ws, ∀ a' U, s.WarmedH U.vm → w.before a' U = true) (hcode : Cond.code y bytes maxL ret ∈ ws) (hinit : ∀ a' U, s.WarmedH U.vm → (Cond.initialized y.cls).before a' U = true) :
    vx_Back l R p e below s sargs y len W9 (PreOf R mc ms Pc) (PostOf Qc mc ms free) (vx_Post XC mc ms free) := by
  intro m meth c A g ig mk a X hg hsize hdg hW hn hp
  have h1 : (headSpec ws rm).pre.before a A.U = true := atoms_intro fun w hw => hws w hw _ _ X.warmed
  have h2 : (Cond.code y bytes maxL ret).before a A.U = true := hws _ hcode _ _ X.warmed
  have h3 : (Cond.initialized y.cls).before a A.U = true := hinit _ _ X.warmed
  have h4 : A.cells + (headSpec ws rm).room.cells ≤ R.cells := by rw [show (headSpec ws rm).room.cells = mc from hrc]; exact hp.1
  have h5 : A.slots + (headSpec ws rm).room.slots ≤ R.slots := by rw [show (headSpec ws rm).room.slots = ms from hrs]; exact hp.2.1
  have hPc : Pc a (A.U.calling g mk a) := hblind _ _ _ _ hp.2.2
  obtain ⟨U, Ls, c0, s0⟩ := A
  dsimp only [Pt.U, Pt.locs, Pt.cells, Pt.slots] at h1 h2 h3 h4 h5 X hn hPc ⊢
  obtain ⟨methY, cY, hmY, hcY, -, hlY, -, -, -, -⟩ := Cond.code_spec hn h2
  obtain ⟨kY, hkY, -⟩ := className_of_methodNamed hn
  have hinitY : kY.init = .initialized := Cond.initialized_spec (findClass_of_methodNamed hn) hkY h3
  have h : At U g.method c below := by rw [hg]; exact X.here
  have hlocals9 : W9 + (maxL + 11) + (headSpec ws rm).room.locals ≤ R.locals := hlocals
  have happ : (headSpec ws rm).appliesLoose y e.platform (U.calling g mk a) = true :=
    Spec.appliesLoose_calling (g := g) h hdg hn hkY hinitY
      (X.room_calling (g := g) (R' := (headSpec ws rm).room) hsize hmY hcY hframes (by rw [hlY]; omega) h4 h5) h1
  obtain ⟨mid, hmid⟩ := h.above
  have hfr : (U.setTop g).frames = (.java g :: mid) ++ below := by rw [State.frames_setTop' g h.top, hmid]; rfl
  obtain ⟨o, s₂, hsteps, -, hend, hq⟩ := Steps.callFree hM p X.admits X.cas X.clock (acts := []) hfr happ hPc trivial
  have hq' : vx_Q Qc XC mc ms free a (U.calling g mk a) o s₂ := hq
  rw [State.frames_setTop' g h.top] at hend
  obtain ⟨g₀, hg0⟩ := Option.isSome_iff_exists.mp h.top
  obtain ⟨r, hr⟩ := State.topJava?_eq_some.mp hg0
  have hr' : (({ U with heap := s₂.heap, slotsUsed := s₂.slotsUsed } : State).setVm s₂.vm).frames = .java g₀ :: r := hr
  rcases hq' with ⟨hqc, L, hfe, hL⟩ | ⟨q, rfl, E, ce, L, hx, hce, hcv, hcl, hW₂, hsm, hL⟩
  · obtain ⟨⟨v, rfl⟩, hW₂, e2, q2, q3, q4, q5, q6⟩ := id hfe
    have e3 : s₂ = ({ (U.calling g mk a).setFrames s₂.frames with heap := s₂.heap, slotsUsed := s₂.slotsUsed } : State).setVm s₂.vm := by
      have : s₂ = ({ s₂ with vm := (U.calling g mk a).vm } : State).setVm s₂.vm := rfl
      rw [e2] at this
      exact this
    obtain ⟨c₂, i₂, len₂, hc₂, hd₂, hf₂⟩ := hend
    have hW' : U.WarmedH s₂.vm := hW₂
    have hcc : c₂ = c := by
      have h1 : s₂.code? g.method = U.code? g.method := by
        rw [State.code?_eq, State.code?_eq, hW'.alike.method?]
      exact Option.some.inj (hc₂.symm.trans (h1.trans h.code))
    subst hcc
    have hlen : len₂ = len := by rw [hdg] at hd₂; cases hd₂; rfl
    subst hlen
    have hs₂ : s₂ = (({ U with heap := s₂.heap, slotsUsed := s₂.slotsUsed } : State).setVm s₂.vm).setTop { g with pc := g.pc + len₂, stack := v.toList ++ g.stack } := by
      refine e3.trans ?_
      rw [hf₂, State.calling_eq h.top, State.setFrames_setFrames, State.setTop_of_frames _ hr', hr]
      rfl
    have hsame : U.sameButNew ({ U with heap := s₂.heap, slotsUsed := s₂.slotsUsed } : State) L mc ms := by
      refine ⟨?_, q2, q3, q4, q5, q6⟩
      obtain ⟨t, ht, -⟩ := State.frames_cons hr
      show ({ U with heap := s₂.heap, slotsUsed := s₂.slotsUsed } : State) = { U.setFrames U.frames with heap := s₂.heap, slotsUsed := s₂.slotsUsed }
      rw [State.setFrames_self ht]
    subst hg
    refine Or.inl ⟨v, ⟨(({ U with heap := s₂.heap, slotsUsed := s₂.slotsUsed } : State).setVm s₂.vm), Ls ++ L, c0 + mc, s0 + ms⟩,
      ⟨X.admits, X.cas, X.clock, X.frames, X.room, X.hears, X.method, X.code, (X.here.setHeapUsed s₂.heap s₂.slotsUsed).setVm hW'.alike, X.tail, State.WarmedH.trans X.warmed hW', X.limits, X.bytes, X.same.trans (hsame.setVm s.vm)⟩,
      ⟨g, mk, s₂, L, rfl, rfl, hqc, rfl, hL, rfl, rfl⟩, ?_⟩
    show Steps p.tables e below _ ((({ U with heap := s₂.heap, slotsUsed := s₂.slotsUsed } : State).setVm s₂.vm).setTop { g with pc := g.pc + len₂, stack := v.toList ++ g.stack })
    rw [← hs₂]
    exact hsteps
  · obtain ⟨e2, q2, q3, q4, q5, q6⟩ := id hsm
    have e3 : s₂ = ({ (U.calling g mk a).setFrames s₂.frames with heap := s₂.heap, slotsUsed := s₂.slotsUsed } : State).setVm s₂.vm := by
      have : s₂ = ({ s₂ with vm := (U.calling g mk a).vm } : State).setVm s₂.vm := rfl
      rw [e2] at this
      exact this
    have hf₂ : s₂.frames = .throwing q :: .java g :: U.frames.tail := hend
    have hW' : U.WarmedH s₂.vm := hW₂
    have hs₂ : s₂ = ((({ U with heap := s₂.heap, slotsUsed := s₂.slotsUsed } : State).setVm s₂.vm).setTop g).pushFrame (.throwing q) := by
      refine e3.trans ?_
      rw [hf₂, State.calling_eq h.top, State.setFrames_setFrames, State.pushFrame, State.frames_setTop _ hr', State.setTop_of_frames _ hr', State.setFrames_setFrames, hr]
      rfl
    have hsame : U.sameButNew ({ U with heap := s₂.heap, slotsUsed := s₂.slotsUsed } : State) L mc ms := by
      refine ⟨?_, q2, q3, q4, q5, q6⟩
      obtain ⟨t, ht, -⟩ := State.frames_cons hr
      show ({ U with heap := s₂.heap, slotsUsed := s₂.slotsUsed } : State) = { U.setFrames U.frames with heap := s₂.heap, slotsUsed := s₂.slotsUsed }
      rw [State.setFrames_self ht]
    subst hg
    refine Or.inr ⟨q, ⟨(({ U with heap := s₂.heap, slotsUsed := s₂.slotsUsed } : State).setVm s₂.vm), Ls ++ L, c0 + mc, s0 + ms⟩,
      ⟨X.admits, X.cas, X.clock, X.frames, X.room, X.hears, X.method, X.code, (X.here.setHeapUsed s₂.heap s₂.slotsUsed).setVm hW'.alike, X.tail, State.WarmedH.trans X.warmed hW', X.limits, X.bytes, X.same.trans (hsame.setVm s.vm)⟩,
      ⟨g, mk, s₂, L, E, ce, rfl, rfl, hx, hce, hcv, hcl, rfl, hL, rfl, rfl⟩, ?_⟩
    show Steps p.tables e below _ (((({ U with heap := s₂.heap, slotsUsed := s₂.slotsUsed } : State).setVm s₂.vm).setTop g).pushFrame (.throwing q))
    rw [← hs₂]
    exact hsteps
end Payer
section Calls
variable {p : Program} {l : Launch} {e : Env} {R : Room} {s : State} {m : MethodId} {args : Array Value} {below : List Frame} {meth : Method} {c : Code} {T : State} {locs : List Loc} {cells slots : Nat}
theorem vx_callV (X : Stand p l e R s m args below meth c T locs cells slots) (hexec : p.tables.exec = Jvm.exec) {own C : String} {index : Nat} {y : MethodName} {bytes : ByteArray} {maxL : Nat} {ret : Option FieldType}
    (hown : s.vm.findClass own = some m.cls) (hlink : (Cond.methodLink own index y).before args s = true) (hinst : (Cond.instanceMethod y).before args s = true) (hsel : (Cond.selects C y y).before args s = true)
    (hcode : (Cond.code y bytes maxL ret).before args s = true) (hy : y.cls ≠ "java/lang/invoke/MethodHandle" ∧ y.cls ≠ "java/lang/invoke/VarHandle")
    {W9 : Nat} {Pre : Pt → Array Value → Prop} {Post : Pt → Array Value → Option Value → Pt → Prop} {PostX : Pt → Array Value → Addr → Pt → Prop} (hK : vx_Back l R p e below s args y 3 W9 Pre Post PostX)
    {b : Addr} {cellB : Cell} (hcell : T.heap[b]? = some cellB) (hobj : cellB.vm.isStatics = false) (hcls : s.vm.findClass C = some cellB.cls)
    {g : JFrame} (hg : g.method = m) (hsize : g.locals.size = c.maxLocals) {argsL rest : List Value} (hlen : ∀ sig, parseMethodDescriptor y.desc = some sig → argsL.length = sig.parameters.length)
    (hstack : g.stack = argsL.reverse ++ .ref b :: rest) (hW : 2 * g.monitorRoom + (rest.map fun v => v.category).sum ≤ W9) (hdg : decode c.code g.pc = .ok (.invokevirtual index, 3))
    (hpre : ∀ vm₁, s.WarmedH vm₁ → Pre ⟨T.setVm vm₁, locs, cells, slots⟩ (Value.ref b :: argsL).toArray) :
    (∃ (v : Option Value) (vm₁ : Vm) (B : Pt), s.WarmedH vm₁ ∧ Stand p l e R s m args below meth c B.U B.locs B.cells B.slots ∧ Post ⟨T.setVm vm₁, locs, cells, slots⟩ (Value.ref b :: argsL).toArray v B ∧
      ∀ target, Steps p.tables e below (B.U.setTop { g with pc := g.pc + 3, stack := v.toList ++ rest }) target → Steps p.tables e below (T.setTop g) target) ∨
    (∃ (q : Addr) (vm₁ : Vm) (B : Pt), s.WarmedH vm₁ ∧ Stand p l e R s m args below meth c B.U B.locs B.cells B.slots ∧ PostX ⟨T.setVm vm₁, locs, cells, slots⟩ (Value.ref b :: argsL).toArray q B ∧
      Steps p.tables e below (T.setTop g) ((B.U.setTop { g with stack := rest }).pushFrame (.throwing q))) := by
  obtain ⟨mk, methM, hnamed, hmethM, hstM, habM⟩ := Cond.instanceMethod_spec hinst
  obtain ⟨methM', cM, hmethM', -, -, -, -, -, -, hsigM⟩ := Cond.code_spec hnamed hcode
  cases hmethM.symm.trans hmethM'
  obtain ⟨c2, r2, m2, q1, q2, q3, q4, kP, hkP, hkPi⟩ := Cond.selects_spec hsel
  cases hcls.symm.trans q1
  cases (State.methodFound?_of_named hnamed hy).symm.trans q2
  cases hnamed.symm.trans q3
  have hselP : selectMethod e.platform s.vm cellB.cls mk = .method mk := by rw [Launch.admits_selectMethod X.admits]; exact q4
  obtain ⟨vm₁, X₁, hstep₁⟩ := X.invokevirtual hexec hown hlink hnamed hmethM hstM hkP hkPi hy (a := b) (cell := cellB) hcell
    (fun z h => by rw [h] at hobj; cases hobj) hselP hmethM habM hkP hkPi (g := g) hg (argsL := argsL) (rest := rest) (hlen _ hsigM) hstack hdg
  rcases hK m meth c ⟨T.setVm vm₁, locs, cells, slots⟩ { g with stack := rest } (.invokevirtual index) mk (Value.ref b :: argsL).toArray X₁ hg hsize hdg hW (X₁.named hnamed) (hpre vm₁ X₁.warmed) with ⟨v, B, X', hpost, hsteps⟩ | ⟨q, B, X', hpost, hsteps⟩
  · exact Or.inl ⟨v, vm₁, B, X₁.warmed, X', hpost, fun target h => hstep₁ _ fun acts => by rw [doInvoke_state]; exact hsteps.trans h⟩
  · exact Or.inr ⟨q, vm₁, B, X₁.warmed, X', hpost, hstep₁ _ fun acts => by rw [doInvoke_state]; exact hsteps⟩
theorem vx_callS (X : Stand p l e R s m args below meth c T locs cells slots) (hexec : p.tables.exec = Jvm.exec) {own : String} {index : Nat} {y : MethodName} {bytes : ByteArray} {maxL : Nat} {ret : Option FieldType}
    (hown : s.vm.findClass own = some m.cls) (hlink : (Cond.methodLink own index y).before args s = true) (hstat : (Cond.static y).before args s = true) (hinit : (Cond.initialized y.cls).before args s = true)
    (hcode : (Cond.code y bytes maxL ret).before args s = true) (hy : y.cls ≠ "java/lang/invoke/MethodHandle" ∧ y.cls ≠ "java/lang/invoke/VarHandle")
    {W9 : Nat} {Pre : Pt → Array Value → Prop} {Post : Pt → Array Value → Option Value → Pt → Prop} {PostX : Pt → Array Value → Addr → Pt → Prop} (hK : vx_Back l R p e below s args y 3 W9 Pre Post PostX)
    {g : JFrame} (hg : g.method = m) (hsize : g.locals.size = c.maxLocals) {argsL rest : List Value} (hlen : ∀ sig, parseMethodDescriptor y.desc = some sig → argsL.length = sig.parameters.length)
    (hstack : g.stack = argsL.reverse ++ rest) (hW : 2 * g.monitorRoom + (rest.map fun v => v.category).sum ≤ W9) (hdg : decode c.code g.pc = .ok (.invokestatic index, 3))
    (hpre : ∀ vm₁, s.WarmedH vm₁ → Pre ⟨T.setVm vm₁, locs, cells, slots⟩ argsL.toArray) :
    (∃ (v : Option Value) (vm₁ : Vm) (B : Pt), s.WarmedH vm₁ ∧ Stand p l e R s m args below meth c B.U B.locs B.cells B.slots ∧ Post ⟨T.setVm vm₁, locs, cells, slots⟩ argsL.toArray v B ∧
      ∀ target, Steps p.tables e below (B.U.setTop { g with pc := g.pc + 3, stack := v.toList ++ rest }) target → Steps p.tables e below (T.setTop g) target) ∨
    (∃ (q : Addr) (vm₁ : Vm) (B : Pt), s.WarmedH vm₁ ∧ Stand p l e R s m args below meth c B.U B.locs B.cells B.slots ∧ PostX ⟨T.setVm vm₁, locs, cells, slots⟩ argsL.toArray q B ∧
      Steps p.tables e below (T.setTop g) ((B.U.setTop { g with stack := rest }).pushFrame (.throwing q))) := by
  obtain ⟨mk, hnamed⟩ := Cond.code_named hcode
  obtain ⟨methM, cM, hmethM, -, -, -, -, -, -, hsigM⟩ := Cond.code_spec hnamed hcode
  have hstatic : methM.isStatic = true := Cond.static_spec hnamed hmethM hstat
  obtain ⟨kP, hkP, -⟩ := className_of_methodNamed hnamed
  have hinitP : kP.init = .initialized := Cond.initialized_spec (findClass_of_methodNamed hnamed) hkP hinit
  obtain ⟨vm₁, X₁, hstep₁⟩ := X.invokestatic hexec hown hlink hnamed hmethM hstatic hkP hinitP hy (g := g) hg (argsL := argsL) (rest := rest) (hlen _ hsigM) hstack hdg
  rcases hK m meth c ⟨T.setVm vm₁, locs, cells, slots⟩ { g with stack := rest } (.invokestatic index) mk argsL.toArray X₁ hg hsize hdg hW (X₁.named hnamed) (hpre vm₁ X₁.warmed) with ⟨v, B, X', hpost, hsteps⟩ | ⟨q, B, X', hpost, hsteps⟩
  · exact Or.inl ⟨v, vm₁, B, X₁.warmed, X', hpost, fun target h => hstep₁ _ fun acts => by rw [doInvoke_state]; exact hsteps.trans h⟩
  · exact Or.inr ⟨q, vm₁, B, X₁.warmed, X', hpost, hstep₁ _ fun acts => by rw [doInvoke_state]; exact hsteps⟩
end Calls
theorem vx_cls {s : State} {T : State} {vm₁ : Vm} {E : String} {k : ClassId} (hW : s.WarmedH vm₁) (h : (T.setVm vm₁).vm.findClass E = some k) : s.vm.findClass E = some k := by
  have h1 : vm₁.findClass E = some k := h
  rw [hW.alike.findClass] at h1
  exact h1
/-- the method's frame g, with q thrown over it -/
def vx_W (p : Program) (l : Launch) (e : Env) (R : Room) (s : State) (m : MethodId) (args : Array Value) (below : List Frame) (meth : Method) (c : Code) (H : Heap) (locs : List Loc) (cells slots : Nat) (Q : State → Prop) (g : JFrame) (q : Addr) : Prop :=
  ∀ T : State, T.heap = H → Stand p l e R s m args below meth c T locs cells slots → ∃ t, Steps p.tables e below ((T.setTop g).pushFrame (.throwing q)) t ∧ Q t
def vx_Run (p : Program) (l : Launch) (e : Env) (R : Room) (s : State) (m : MethodId) (args : Array Value) (below : List Frame) (meth : Method) (c : Code) (H : Heap) (locs : List Loc) (cells slots mc ms : Nat) (g : JFrame) (rest : List Value) (Qa : State → Outcome → State → Prop) (XC : String → State → State → Prop) (free : Addr → Prop) : Prop :=
  ∀ T : State, T.heap = H → Stand p l e R s m args below meth c T locs cells slots →
    (∃ (v : Option Value) (st₀ t T' : State) (L : List Loc), st₀.heap = H ∧ Stand p l e R s m args below meth c T' (locs ++ L) (cells + mc) (slots + ms) ∧ (∀ q ∈ L, free q.base) ∧ T'.heap = t.heap ∧ T'.vm = t.vm ∧ Qa st₀ (.returned v) t ∧
      Goes p e below T g T' { g with pc := g.pc + 3, stack := v.toList ++ rest }) ∨
    (∃ (q : Addr) (st₀ t T' : State) (L : List Loc) (E : String) (ce : Cell), st₀.heap = H ∧ Stand p l e R s m args below meth c T' (locs ++ L) (cells + mc) (slots + ms) ∧ (∀ z ∈ L, free z.base) ∧ T'.heap = t.heap ∧ T'.vm = t.vm ∧ XC E st₀ t ∧ t.heap[q]? = some ce ∧ ce.vm = .none ∧ s.vm.findClass E = some ce.cls ∧
      Steps p.tables e below (T.setTop g) ((T'.setTop { g with stack := rest }).pushFrame (.throwing q)))
def vx_X {S : Type} (px : S → Prop) (B : String → S → State → Prop) (A : Nat → Prop) : String → State → State → Prop := fun E st t => ∃ u : S, px u ∧ B E u t ∧ va_F A st t
section Runs
variable {p : Program} {l : Launch} {e : Env} {R : Room} {s : State} {m : MethodId} {args : Array Value} {below : List Frame} {meth : Method} {c : Code} {H : Heap} {locs : List Loc} {cells slots : Nat}
variable {y : MethodName} {bytes cc : ByteArray} {maxL nL mc ms n index : Nat} {ret : Option FieldType} {ws : List Cond} {rm : Room} {Pc : Array Value → State → Prop} {Qc : Array Value → State → Outcome → State → Prop} {XC : String → State → State → Prop} {free : Addr → Prop} {Ts : List Cond} {own C : String} {b : Addr} {As rest : List Value} {g : JFrame}
theorem vx_callBack (cb : CallB R s args own index y bytes maxL ret ws rm mc ms n) (hM : vx_Met l y ws rm Pc Qc XC mc ms free) (hbl : FrameBlind Pc) : vx_Back l R p e below s args y 3 8 (PreOf R mc ms Pc) (PostOf Qc mc ms free) (vx_Post XC mc ms free) := by
  obtain ⟨hrc, hrs, hfr, hlo, hws, hcw, -, hini, -⟩ := cb
  exact vx_back (bytes := bytes) (maxL := maxL) (ret := ret) hM hbl hrc hrs hfr hlo hws hcw (fun a' U hW => word_at hW (Or.inl (by first | rfl | simp [Cond.onTables, Cond.keeps, Cond.steady])) hini)
theorem vx_runV (S : CallFix p m c cc nL s args Ts own) (hM : vx_Met l y ws rm Pc Qc XC mc ms free) (cw : CallW R s args own C index y bytes maxL ret ws rm mc ms n) (hp : PreV s H C b Pc As)
    (hg : g.method = m) (hn : As.length = n) (hsize : g.locals.size = nL) (hstack : g.stack = As.reverse ++ .ref b :: rest) (hW : 2 * g.monitorRoom + (rest.map fun v => v.category).sum ≤ 8) (hdg : decode cc g.pc = .ok (.invokevirtual index, 3)) (hf : cells + mc ≤ R.cells ∧ slots + ms ≤ R.slots) :
    vx_Run p l e R s m args below meth c H locs cells slots mc ms g rest (Qc (Value.ref b :: As).toArray) XC free := by
  have hK : vx_Back l R p e below s args y 3 8 (PreOf R mc ms Pc) (PostOf Qc mc ms free) (vx_Post XC mc ms free) := vx_callBack cw.1 hM hp.1
  obtain ⟨⟨-, -, -, -, -, -, hcode, -, hy, hlen, hl⟩, hin, hse⟩ := cw
  obtain ⟨hx, hb, hml, ho, -⟩ := S
  obtain ⟨-, ⟨cellB, hcB, hoB, hclB⟩, hPc⟩ := hp
  intro T hT X
  rcases vx_callV X hx (C := C) (bytes := bytes) (maxL := maxL) (ret := ret) ho hl hin hse hcode hy hK (by rw [hT]; exact hcB) hoB hclB hg (hsize.trans hml.symm) (argsL := As) (rest := rest) (fun sig h => hn.trans (hlen sig h)) hstack hW (by rw [hb]; exact hdg)
    (fun vm₁ hW₁ => ⟨hf.1, hf.2, hPc (T.setVm vm₁) hT hW₁⟩) with ⟨v, vm₁, ⟨U', l2, c2, s2⟩, hW₁, X', ⟨g', mk, t, L, e1, e2, hq, h1, hL, h2, h3⟩, st⟩ | ⟨q, vm₁, ⟨U', l2, c2, s2⟩, hW₁, X', ⟨g', mk, t, L, E, ce, e1, e2, hq, hce, hcv, hcl, h1, hL, h2, h3⟩, st⟩
  · dsimp only [Pt.U, Pt.locs, Pt.cells, Pt.slots] at X' e1 e2 h1 h2 h3 st
    subst h1; subst h2; subst h3
    exact Or.inl ⟨v, (T.setVm vm₁).calling g' mk (Value.ref b :: As).toArray, t, U', L, hT, X', hL, e1, e2, hq, st⟩
  · dsimp only [Pt.U, Pt.locs, Pt.cells, Pt.slots] at X' e1 e2 h1 h2 h3 st hcl
    subst h1; subst h2; subst h3
    exact Or.inr ⟨q, (T.setVm vm₁).calling g' mk (Value.ref b :: As).toArray, t, U', L, E, ce, hT, X', hL, e1, e2, hq, hce, hcv, vx_cls hW₁ hcl, st⟩
theorem vx_runS (S : CallFix p m c cc nL s args Ts own) (hM : vx_Met l y ws rm Pc Qc XC mc ms free) (cw : CallB R s args own index y bytes maxL ret ws rm mc ms n ∧ (Cond.static y).before args s = true) (hp : PreS s H Pc As)
    (hg : g.method = m) (hn : As.length = n) (hsize : g.locals.size = nL) (hstack : g.stack = As.reverse ++ rest) (hW : 2 * g.monitorRoom + (rest.map fun v => v.category).sum ≤ 8) (hdg : decode cc g.pc = .ok (.invokestatic index, 3)) (hf : cells + mc ≤ R.cells ∧ slots + ms ≤ R.slots) :
    vx_Run p l e R s m args below meth c H locs cells slots mc ms g rest (Qc As.toArray) XC free := by
  have hK : vx_Back l R p e below s args y 3 8 (PreOf R mc ms Pc) (PostOf Qc mc ms free) (vx_Post XC mc ms free) := vx_callBack cw.1 hM hp.1
  obtain ⟨⟨-, -, -, -, -, -, hcode, hini, hy, hlen, hl⟩, hstt⟩ := cw
  obtain ⟨hx, hb, hml, ho, -⟩ := S
  intro T hT X
  rcases vx_callS X hx (bytes := bytes) (maxL := maxL) (ret := ret) ho hl hstt hini hcode hy hK hg (hsize.trans hml.symm) (argsL := As) (rest := rest) (fun sig h => hn.trans (hlen sig h)) hstack hW (by rw [hb]; exact hdg)
    (fun vm₁ hW₁ => ⟨hf.1, hf.2, hp.2 (T.setVm vm₁) hT hW₁⟩) with ⟨v, vm₁, ⟨U', l2, c2, s2⟩, hW₁, X', ⟨g', mk, t, L, e1, e2, hq, h1, hL, h2, h3⟩, st⟩ | ⟨q, vm₁, ⟨U', l2, c2, s2⟩, hW₁, X', ⟨g', mk, t, L, E, ce, e1, e2, hq, hce, hcv, hcl, h1, hL, h2, h3⟩, st⟩
  · dsimp only [Pt.U, Pt.locs, Pt.cells, Pt.slots] at X' e1 e2 h1 h2 h3 st
    subst h1; subst h2; subst h3
    exact Or.inl ⟨v, (T.setVm vm₁).calling g' mk As.toArray, t, U', L, hT, X', hL, e1, e2, hq, st⟩
  · dsimp only [Pt.U, Pt.locs, Pt.cells, Pt.slots] at X' e1 e2 h1 h2 h3 st hcl
    subst h1; subst h2; subst h3
    exact Or.inr ⟨q, (T.setVm vm₁).calling g' mk As.toArray, t, U', L, E, ce, hT, X', hL, e1, e2, hq, hce, hcv, vx_cls hW₁ hcl, st⟩
end Runs
section Rows
variable {p : Program} {l : Launch} {e : Env} {R : Room} {s : State} {m : MethodId} {args : Array Value} {below : List Frame} {meth : Method} {c : Code} {H : Heap} {locs : List Loc} {cells slots : Nat} {Q : State → Prop}
variable {mc ms : Nat} {free : Addr → Prop} {A0 A1 : Nat → Prop} {H0 : Heap} {a : Array Value} {pc : Nat} {ls : Array Slot} {st0 rest : List Value}
theorem vx_keep {st₀ t T' : State} {L : List Loc} (h0 : st₀.heap = H) (e1 : T'.heap = t.heap) (hS : va_S A0 H0 H locs) (hA : ∀ q, q < H.size → A1 q → A0 q) (hf : ∀ q, free q → A0 q) (hL : ∀ q ∈ L, free q.base) (hF : va_F A1 st₀ t) :
    H.size ≤ T'.heap.size ∧ (∀ q : Nat, q < H.size → ¬ A1 q → T'.heap[q]? = H[q]?) ∧ va_S A0 H0 T'.heap (locs ++ L) := by
  obtain ⟨hz, hk⟩ := hF
  rw [h0] at hz hk
  exact ⟨by rw [e1]; exact hz, fun q h1 h2 => by rw [e1]; exact hk q h1 h2,
    ⟨Nat.le_trans hS.1 (by rw [e1]; exact hz), fun q h1 h2 => by rw [e1, hk q (Nat.lt_of_lt_of_le h1 hS.1) (fun z => h2 (hA q (Nat.lt_of_lt_of_le h1 hS.1) z))]; exact hS.2.1 q h1 h2, fun q hq => by
      rcases List.mem_append.mp hq with h | h
      · exact hS.2.2 q h
      · exact hf _ (hL q h)⟩⟩
theorem vx_calli {S SX : Type} {post : Int32 → S → Prop} {px : SX → Prop} {B : S → State → Prop} {BX : String → SX → State → Prop} {AX : Nat → Prop} (hr : vx_Run p l e R s m args below meth c H locs cells slots mc ms (F0 m pc ls st0) rest (va_Qi post B A1 a) (vx_X px BX AX) free) (hS : va_S A0 H0 H locs) (hA : ∀ q, q < H.size → A1 q → A0 q) (hf : ∀ q, free q → A0 q) (hAX : ∀ q, q < H.size → AX q → A0 q)
    (kx : ∀ (E : String) (ce : Cell) (q9 : Addr) (u : SX) (t : State) (H1 : Heap) (locs1 : List Loc), t.heap = H1 → s.vm.Alike t.vm → px u → BX E u t → H.size ≤ H1.size → (∀ q : Nat, q < H.size → ¬ AX q → H1[q]? = H[q]?) → va_S A0 H0 H1 locs1 → H1[q9]? = some ce → ce.vm = .none → s.vm.findClass E = some ce.cls → vx_W p l e R s m args below meth c H1 locs1 (cells + mc) (slots + ms) Q (F0 m pc ls rest) q9)
    (kk : ∀ (r : Int32) (u : S) (t : State) (H1 : Heap) (locs1 : List Loc), t.heap = H1 → s.vm.Alike t.vm → post r u → B u t → H.size ≤ H1.size → (∀ q : Nat, q < H.size → ¬ A1 q → H1[q]? = H[q]?) → va_S A0 H0 H1 locs1 → W p l e R s m args below meth c H1 locs1 (cells + mc) (slots + ms) Q (F0 m (pc + 3) ls (.int r :: rest))) : W p l e R s m args below meth c H locs cells slots Q (F0 m pc ls st0) := by
  intro T hT X
  rcases hr T hT X with ⟨v, st₀, t, T', L, h0, X', hL, e1, e2, ⟨⟨r, u, hv, hp, hb⟩, hF⟩, st⟩ | ⟨q, st₀, t, T', L, E, ce, h0, X', hL, e1, e2, ⟨u, hp, hb, hF⟩, hce, hcv, hcl, st⟩
  · cases hv
    obtain ⟨k1, k2, k3⟩ := vx_keep h0 e1 hS hA hf hL hF
    obtain ⟨t2, a1, b1⟩ := kk r u t T'.heap (locs ++ L) e1.symm (by rw [← e2]; exact X'.warmed.alike) hp hb k1 k2 k3 T' rfl X'
    exact ⟨t2, st t2 a1, b1⟩
  · obtain ⟨k1, k2, k3⟩ := vx_keep h0 e1 hS hAX hf hL hF
    obtain ⟨t2, a1, b1⟩ := kx E ce q u t T'.heap (locs ++ L) e1.symm (by rw [← e2]; exact X'.warmed.alike) hp hb k1 k2 k3 (by rw [e1]; exact hce) hcv hcl T' rfl X'
    exact ⟨t2, st.trans a1, b1⟩
theorem vx_calll {S SX : Type} {post : Int64 → S → Prop} {px : SX → Prop} {B : S → State → Prop} {BX : String → SX → State → Prop} {AX : Nat → Prop} (hr : vx_Run p l e R s m args below meth c H locs cells slots mc ms (F0 m pc ls st0) rest (va_Ql post B A1 a) (vx_X px BX AX) free) (hS : va_S A0 H0 H locs) (hA : ∀ q, q < H.size → A1 q → A0 q) (hf : ∀ q, free q → A0 q) (hAX : ∀ q, q < H.size → AX q → A0 q)
    (kx : ∀ (E : String) (ce : Cell) (q9 : Addr) (u : SX) (t : State) (H1 : Heap) (locs1 : List Loc), t.heap = H1 → s.vm.Alike t.vm → px u → BX E u t → H.size ≤ H1.size → (∀ q : Nat, q < H.size → ¬ AX q → H1[q]? = H[q]?) → va_S A0 H0 H1 locs1 → H1[q9]? = some ce → ce.vm = .none → s.vm.findClass E = some ce.cls → vx_W p l e R s m args below meth c H1 locs1 (cells + mc) (slots + ms) Q (F0 m pc ls rest) q9)
    (kk : ∀ (r : Int64) (u : S) (t : State) (H1 : Heap) (locs1 : List Loc), t.heap = H1 → s.vm.Alike t.vm → post r u → B u t → H.size ≤ H1.size → (∀ q : Nat, q < H.size → ¬ A1 q → H1[q]? = H[q]?) → va_S A0 H0 H1 locs1 → W p l e R s m args below meth c H1 locs1 (cells + mc) (slots + ms) Q (F0 m (pc + 3) ls (.long r :: rest))) : W p l e R s m args below meth c H locs cells slots Q (F0 m pc ls st0) := by
  intro T hT X
  rcases hr T hT X with ⟨v, st₀, t, T', L, h0, X', hL, e1, e2, ⟨⟨r, u, hv, hp, hb⟩, hF⟩, st⟩ | ⟨q, st₀, t, T', L, E, ce, h0, X', hL, e1, e2, ⟨u, hp, hb, hF⟩, hce, hcv, hcl, st⟩
  · cases hv
    obtain ⟨k1, k2, k3⟩ := vx_keep h0 e1 hS hA hf hL hF
    obtain ⟨t2, a1, b1⟩ := kk r u t T'.heap (locs ++ L) e1.symm (by rw [← e2]; exact X'.warmed.alike) hp hb k1 k2 k3 T' rfl X'
    exact ⟨t2, st t2 a1, b1⟩
  · obtain ⟨k1, k2, k3⟩ := vx_keep h0 e1 hS hAX hf hL hF
    obtain ⟨t2, a1, b1⟩ := kx E ce q u t T'.heap (locs ++ L) e1.symm (by rw [← e2]; exact X'.warmed.alike) hp hb k1 k2 k3 (by rw [e1]; exact hce) hcv hcl T' rfl X'
    exact ⟨t2, st.trans a1, b1⟩
theorem vx_callf {S SX : Type} {post : UInt32 → S → Prop} {px : SX → Prop} {B : S → State → Prop} {BX : String → SX → State → Prop} {AX : Nat → Prop} (hr : vx_Run p l e R s m args below meth c H locs cells slots mc ms (F0 m pc ls st0) rest (va_Qf post B A1 a) (vx_X px BX AX) free) (hS : va_S A0 H0 H locs) (hA : ∀ q, q < H.size → A1 q → A0 q) (hf : ∀ q, free q → A0 q) (hAX : ∀ q, q < H.size → AX q → A0 q)
    (kx : ∀ (E : String) (ce : Cell) (q9 : Addr) (u : SX) (t : State) (H1 : Heap) (locs1 : List Loc), t.heap = H1 → s.vm.Alike t.vm → px u → BX E u t → H.size ≤ H1.size → (∀ q : Nat, q < H.size → ¬ AX q → H1[q]? = H[q]?) → va_S A0 H0 H1 locs1 → H1[q9]? = some ce → ce.vm = .none → s.vm.findClass E = some ce.cls → vx_W p l e R s m args below meth c H1 locs1 (cells + mc) (slots + ms) Q (F0 m pc ls rest) q9)
    (kk : ∀ (r : UInt32) (u : S) (t : State) (H1 : Heap) (locs1 : List Loc), t.heap = H1 → s.vm.Alike t.vm → post r u → B u t → H.size ≤ H1.size → (∀ q : Nat, q < H.size → ¬ A1 q → H1[q]? = H[q]?) → va_S A0 H0 H1 locs1 → W p l e R s m args below meth c H1 locs1 (cells + mc) (slots + ms) Q (F0 m (pc + 3) ls (.float r :: rest))) : W p l e R s m args below meth c H locs cells slots Q (F0 m pc ls st0) := by
  intro T hT X
  rcases hr T hT X with ⟨v, st₀, t, T', L, h0, X', hL, e1, e2, ⟨⟨r, u, hv, hp, hb⟩, hF⟩, st⟩ | ⟨q, st₀, t, T', L, E, ce, h0, X', hL, e1, e2, ⟨u, hp, hb, hF⟩, hce, hcv, hcl, st⟩
  · cases hv
    obtain ⟨k1, k2, k3⟩ := vx_keep h0 e1 hS hA hf hL hF
    obtain ⟨t2, a1, b1⟩ := kk r u t T'.heap (locs ++ L) e1.symm (by rw [← e2]; exact X'.warmed.alike) hp hb k1 k2 k3 T' rfl X'
    exact ⟨t2, st t2 a1, b1⟩
  · obtain ⟨k1, k2, k3⟩ := vx_keep h0 e1 hS hAX hf hL hF
    obtain ⟨t2, a1, b1⟩ := kx E ce q u t T'.heap (locs ++ L) e1.symm (by rw [← e2]; exact X'.warmed.alike) hp hb k1 k2 k3 (by rw [e1]; exact hce) hcv hcl T' rfl X'
    exact ⟨t2, st.trans a1, b1⟩
theorem vx_calld {S SX : Type} {post : UInt64 → S → Prop} {px : SX → Prop} {B : S → State → Prop} {BX : String → SX → State → Prop} {AX : Nat → Prop} (hr : vx_Run p l e R s m args below meth c H locs cells slots mc ms (F0 m pc ls st0) rest (va_Qd post B A1 a) (vx_X px BX AX) free) (hS : va_S A0 H0 H locs) (hA : ∀ q, q < H.size → A1 q → A0 q) (hf : ∀ q, free q → A0 q) (hAX : ∀ q, q < H.size → AX q → A0 q)
    (kx : ∀ (E : String) (ce : Cell) (q9 : Addr) (u : SX) (t : State) (H1 : Heap) (locs1 : List Loc), t.heap = H1 → s.vm.Alike t.vm → px u → BX E u t → H.size ≤ H1.size → (∀ q : Nat, q < H.size → ¬ AX q → H1[q]? = H[q]?) → va_S A0 H0 H1 locs1 → H1[q9]? = some ce → ce.vm = .none → s.vm.findClass E = some ce.cls → vx_W p l e R s m args below meth c H1 locs1 (cells + mc) (slots + ms) Q (F0 m pc ls rest) q9)
    (kk : ∀ (r : UInt64) (u : S) (t : State) (H1 : Heap) (locs1 : List Loc), t.heap = H1 → s.vm.Alike t.vm → post r u → B u t → H.size ≤ H1.size → (∀ q : Nat, q < H.size → ¬ A1 q → H1[q]? = H[q]?) → va_S A0 H0 H1 locs1 → W p l e R s m args below meth c H1 locs1 (cells + mc) (slots + ms) Q (F0 m (pc + 3) ls (.double r :: rest))) : W p l e R s m args below meth c H locs cells slots Q (F0 m pc ls st0) := by
  intro T hT X
  rcases hr T hT X with ⟨v, st₀, t, T', L, h0, X', hL, e1, e2, ⟨⟨r, u, hv, hp, hb⟩, hF⟩, st⟩ | ⟨q, st₀, t, T', L, E, ce, h0, X', hL, e1, e2, ⟨u, hp, hb, hF⟩, hce, hcv, hcl, st⟩
  · cases hv
    obtain ⟨k1, k2, k3⟩ := vx_keep h0 e1 hS hA hf hL hF
    obtain ⟨t2, a1, b1⟩ := kk r u t T'.heap (locs ++ L) e1.symm (by rw [← e2]; exact X'.warmed.alike) hp hb k1 k2 k3 T' rfl X'
    exact ⟨t2, st t2 a1, b1⟩
  · obtain ⟨k1, k2, k3⟩ := vx_keep h0 e1 hS hAX hf hL hF
    obtain ⟨t2, a1, b1⟩ := kx E ce q u t T'.heap (locs ++ L) e1.symm (by rw [← e2]; exact X'.warmed.alike) hp hb k1 k2 k3 (by rw [e1]; exact hce) hcv hcl T' rfl X'
    exact ⟨t2, st.trans a1, b1⟩
theorem vx_callv {S SX : Type} {post : S → Prop} {px : SX → Prop} {B : S → State → Prop} {BX : String → SX → State → Prop} {AX : Nat → Prop} (hr : vx_Run p l e R s m args below meth c H locs cells slots mc ms (F0 m pc ls st0) rest (va_Qv post B A1 a) (vx_X px BX AX) free) (hS : va_S A0 H0 H locs) (hA : ∀ q, q < H.size → A1 q → A0 q) (hf : ∀ q, free q → A0 q) (hAX : ∀ q, q < H.size → AX q → A0 q)
    (kx : ∀ (E : String) (ce : Cell) (q9 : Addr) (u : SX) (t : State) (H1 : Heap) (locs1 : List Loc), t.heap = H1 → s.vm.Alike t.vm → px u → BX E u t → H.size ≤ H1.size → (∀ q : Nat, q < H.size → ¬ AX q → H1[q]? = H[q]?) → va_S A0 H0 H1 locs1 → H1[q9]? = some ce → ce.vm = .none → s.vm.findClass E = some ce.cls → vx_W p l e R s m args below meth c H1 locs1 (cells + mc) (slots + ms) Q (F0 m pc ls rest) q9)
    (kk : ∀ (u : S) (t : State) (H1 : Heap) (locs1 : List Loc), t.heap = H1 → s.vm.Alike t.vm → post u → B u t → H.size ≤ H1.size → (∀ q : Nat, q < H.size → ¬ A1 q → H1[q]? = H[q]?) → va_S A0 H0 H1 locs1 → W p l e R s m args below meth c H1 locs1 (cells + mc) (slots + ms) Q (F0 m (pc + 3) ls (rest))) : W p l e R s m args below meth c H locs cells slots Q (F0 m pc ls st0) := by
  intro T hT X
  rcases hr T hT X with ⟨v, st₀, t, T', L, h0, X', hL, e1, e2, ⟨⟨u, hv, hp, hb⟩, hF⟩, st⟩ | ⟨q, st₀, t, T', L, E, ce, h0, X', hL, e1, e2, ⟨u, hp, hb, hF⟩, hce, hcv, hcl, st⟩
  · cases hv
    obtain ⟨k1, k2, k3⟩ := vx_keep h0 e1 hS hA hf hL hF
    obtain ⟨t2, a1, b1⟩ := kk u t T'.heap (locs ++ L) e1.symm (by rw [← e2]; exact X'.warmed.alike) hp hb k1 k2 k3 T' rfl X'
    exact ⟨t2, st t2 a1, b1⟩
  · obtain ⟨k1, k2, k3⟩ := vx_keep h0 e1 hS hAX hf hL hF
    obtain ⟨t2, a1, b1⟩ := kx E ce q u t T'.heap (locs ++ L) e1.symm (by rw [← e2]; exact X'.warmed.alike) hp hb k1 k2 k3 (by rw [e1]; exact hce) hcv hcl T' rfl X'
    exact ⟨t2, st.trans a1, b1⟩
end Rows
section Ends
variable {p : Program} {l : Launch} {e : Env} {R : Room} {s : State} {m : MethodId} {args : Array Value} {below : List Frame} {meth : Method} {c : Code} {H : Heap} {locs : List Loc} {cells slots : Nat} {Q : State → Prop}
variable {mc ms : Nat} {free : Addr → Prop} {A0 A1 : Nat → Prop} {H0 : Heap} {a : Array Value} {ls : Array Slot} {st0 rest : List Value}
variable {Qc : Array Value → State → Outcome → State → Prop} {XC : String → State → State → Prop}
/-- what a body that may throw owes at its end -/
def vx_MQ (below : List Frame) (Qc : Array Value → State → Outcome → State → Prop) (XC : String → State → State → Prop) (a : Array Value) (s : State) (mc ms : Nat) (free : Addr → Prop) : State → Prop := fun t =>
  ∃ o, t.status = .running ∧ Ended t below o ∧ vx_Q Qc XC mc ms free a s o t
theorem vx_ret {g : JFrame} {mc ms : Nat} (k : W p l e R s m args below meth c H locs cells slots (MQ below Qc args s mc ms free) g) : W p l e R s m args below meth c H locs cells slots (vx_MQ below Qc XC args s mc ms free) g := by
  intro T hT X
  obtain ⟨t, a1, o, b1, b2, b3, b4⟩ := k T hT X
  exact ⟨t, a1, o, b1, b2, Or.inl ⟨b3, b4⟩⟩
/-- not caught here: it goes on to the caller -/
theorem vx_widen {g : JFrame} {q : Addr} {k n : Nat} (h1 : cells ≤ k) (h2 : slots ≤ n) (kk : vx_W p l e R s m args below meth c H locs k n Q g q) : vx_W p l e R s m args below meth c H locs cells slots Q g q := fun T hT X => kk T hT (stand_widen X h1 h2)
theorem vx_out {pc : Nat} {E : String} {ce : Cell} {q : Addr} {mc ms : Nat} (hout : ∀ x ∈ c.exceptionTable.toList, covers x pc = false) (hlocks : meth.locks = false) (hcell : H[q]? = some ce) (hv : ce.vm = .none) (hcl : s.vm.findClass E = some ce.cls)
    (hx : ∀ t : State, t.heap = H → s.vm.Alike t.vm → XC E s t) (hf : ∀ z ∈ locs, free z.base) (hc : cells ≤ mc) (hs : slots ≤ ms) :
    vx_W p l e R s m args below meth c H locs cells slots (vx_MQ below Qc XC args s mc ms free) (F0 m pc ls rest) q := by
  intro T hT X
  obtain ⟨st1, hrun, hend, hW, hsm⟩ := X.leaveThrown q (g := F0 m pc ls rest) rfl rfl rfl hout hlocks
  have hcell9 : (T.setFrames (.throwing q :: below)).heap[q]? = some ce := by
    show T.heap[q]? = some ce
    rw [hT]; exact hcell
  exact ⟨_, st1, .threw q, hrun, hend, Or.inr ⟨q, rfl, E, ce, locs, hx _ hT hW.alike, hcell9, hv, hcl, hW, hsm.mono hc hs, hf⟩⟩
theorem vx_frame {U : State} {k n : Nat} (h : s.sameButNew ({ U with vm := s.vm } : State) locs k n) : s.heap.size ≤ U.heap.size ∧ ∀ q : Nat, q < s.heap.size → (∀ z ∈ locs, z.base ≠ q) → U.heap[q]? = s.heap[q]? := by
  obtain ⟨-, h2, -, -, -, h6⟩ := h
  refine ⟨h2, fun q hq hz => ?_⟩
  obtain ⟨c9, e1, e2, e3, e4⟩ := h6 q _ (Array.getElem?_eq_getElem hq)
  have hs : c9.slots = (s.heap[q]).slots := Array.ext_getElem? fun i => e4 i fun hm => hz _ hm rfl
  have h9 : c9 = s.heap[q] := by
    rw [hs] at e2
    exact e2
  have e5 : U.heap[q]? = some c9 := e1
  rw [e5, h9, Array.getElem?_eq_getElem hq]
/-- the words of a throw but the four that speak of the heap -/
def vx_no (w : Cond) : Bool := decide (w ≠ .isRef (.static Bundle.tN "UNASSIGNED_STACK" Bundle.steD)) && decide (w ≠ .isRef (.static Bundle.tN "SUPPRESSED_SENTINEL" Bundle.listD)) && decide (w ≠ .laysStatic Bundle.tN "UNASSIGNED_STACK" Bundle.steD) && decide (w ≠ .laysStatic Bundle.tN "SUPPRESSED_SENTINEL" Bundle.listD)
def vx_at0 (own : String) (ic : Nat) (X : String) (names : List String) : List Cond := (Bundle.ownAtoms0 own ic X names).filter vx_no
def vx_atS (own : String) (ic : Nat) (X : String) (names : List String) : List Cond := (Bundle.ownAtoms own ic X names).filter vx_no
/-- a word that the tables alone decide, or a good one -/
def vx_ot (w : Cond) : Bool := w.onTables || goodWord w
theorem vx_ot_at {args a' : Array Value} {s U : State} {w : Cond} (hW : s.WarmedH U.vm) (hvm : s.vm = U.vm) (hg : vx_ot w = true) (h : w.before args s = true) : w.before a' U = true := by
  simp only [vx_ot, Bool.or_eq_true] at hg
  rcases hg with hg | hg
  · exact va_tabs hg hvm h
  · exact word_at hW (good_of_word hg) h
/-- a list's words: the good ones out of the method's own list, the others by premises of their own -/
theorem vx_hat {args : Array Value} {s : State} {L B : List Cond} (h1 : ∀ w ∈ L.filter goodWord, w.before args s = true) (h2 : ∀ w ∈ L.filter (fun w => !goodWord w), w ∈ B) (h3 : ∀ w ∈ B, w.before args s = true) : ∀ w ∈ L, w.before args s = true := by
  intro w hw
  by_cases g : goodWord w = true
  · exact h1 w (List.mem_filter.mpr ⟨hw, g⟩)
  · refine h3 w (h2 w (List.mem_filter.mpr ⟨hw, ?_⟩))
    show (!goodWord w) = true
    cases hgw : goodWord w
    · rfl
    · exact absurd hgw g
theorem vx_c {args : Array Value} {s : State} {w : Cond} {B : List Cond} (h : w.before args s = true) (t : ∀ w ∈ B, w.before args s = true) : ∀ w' ∈ w :: B, w'.before args s = true := fun w' h' => (List.mem_cons.mp h').elim (fun e => by rw [e]; exact h) (t w')
theorem vx_n {args : Array Value} {s : State} : ∀ w ∈ ([] : List Cond), w.before args s = true := fun _ h => nomatch h
theorem vx_own {args : Array Value} {s : State} {L : List Cond} (h1 : ∀ w ∈ L.filter vx_no, w.before args s = true)
    (hU : (Cond.isRef (.static Bundle.tN "UNASSIGNED_STACK" Bundle.steD)).before args s = true) (hN : (Cond.isRef (.static Bundle.tN "SUPPRESSED_SENTINEL" Bundle.listD)).before args s = true)
    (lU : (Cond.laysStatic Bundle.tN "UNASSIGNED_STACK" Bundle.steD).before args s = true) (lN : (Cond.laysStatic Bundle.tN "SUPPRESSED_SENTINEL" Bundle.listD).before args s = true) : ∀ w ∈ L, w.before args s = true := by
  intro w hw
  by_cases e1 : w = .isRef (.static Bundle.tN "UNASSIGNED_STACK" Bundle.steD)
  · rw [e1]; exact hU
  · by_cases e2 : w = .isRef (.static Bundle.tN "SUPPRESSED_SENTINEL" Bundle.listD)
    · rw [e2]; exact hN
    · by_cases e3 : w = .laysStatic Bundle.tN "UNASSIGNED_STACK" Bundle.steD
      · rw [e3]; exact lU
      · by_cases e4 : w = .laysStatic Bundle.tN "SUPPRESSED_SENTINEL" Bundle.listD
        · rw [e4]; exact lN
        · exact h1 w (List.mem_filter.mpr ⟨hw, by unfold vx_no; rw [decide_eq_true e1, decide_eq_true e2, decide_eq_true e3, decide_eq_true e4]; rfl⟩)
/-- where a static field lies, its class's statics cell in H -/
def vx_L (C n d : String) (A : Nat → Prop) (U : State) (H : Heap) : Prop := ∃ (c : ClassId) (k : Class) (i : Nat) (f : Field) (a : Nat) (cell : Cell), U.vm.findClass C = some c ∧ U.fieldFound? C n d = some (c, k, i, f) ∧ f.isStatic = true ∧ k.statics = some a ∧ H[a]? = some cell ∧ cell.vm.isStatics = true ∧ cell.cls = c ∧ f.slot < cell.slots.size ∧ k.staticTypes[f.slot]? = some f.type ∧ ¬ A a
theorem vx_L.moved {C n d : String} {A : Nat → Prop} {u U : State} {H : Heap} (hvm : u.vm.Alike U.vm) (h : vx_L C n d A u H) : vx_L C n d A U H := by
  obtain ⟨c, k, i, f, a, cell, h1, h2, h3, h4, h5, h6, h7, h8, h9, h10⟩ := h
  obtain ⟨k', hi', he⟩ := State.fieldFound?_setVm hvm h2
  exact ⟨c, k', i, f, a, cell, by rw [hvm.findClass]; exact h1, hi', h3, by rw [he]; exact h4, h5, h6, h7, h8, by rw [he]; exact h9, h10⟩
theorem vx_L.kept {C n d : String} {A : Nat → Prop} {U : State} {H H1 : Heap} (h : vx_L C n d A U H) (hq : ∀ a : Nat, a < H.size → ¬ A a → H1[a]? = H[a]?) : vx_L C n d A U H1 := by
  obtain ⟨c, k, i, f, a, cell, h1, h2, h3, h4, h5, h6, h7, h8, h9, h10⟩ := h
  exact ⟨c, k, i, f, a, cell, h1, h2, h3, h4, by rw [hq a (Array.getElem?_eq_some_iff.mp h5).1 h10]; exact h5, h6, h7, h8, h9, h10⟩
theorem vx_L.narrow {C n d : String} {A B : Nat → Prop} {U : State} {H : Heap} (h : vx_L C n d A U H) (hAB : ∀ q, B q → A q) : vx_L C n d B U H := by
  obtain ⟨c, k, i, f, a, cell, h1, h2, h3, h4, h5, h6, h7, h8, h9, h10⟩ := h
  exact ⟨c, k, i, f, a, cell, h1, h2, h3, h4, h5, h6, h7, h8, h9, fun z => h10 (hAB _ z)⟩
theorem vx_L.word {C n d : String} {A : Nat → Prop} {s : State} {args : Array Value} (h : vx_L C n d A s s.heap) : (Cond.laysStatic C n d).before args s = true := by
  obtain ⟨c, k, i, f, a, cell, h1, h2, h3, h4, h5, h6, h7, h8, h9, -⟩ := h
  show (Cond.laysStatic C n d).holds args s none s [] = true
  exact Cond.laysStatic_of h1 h2 h3 h4 h5 h6 h7 h8 h9
/-- .. and what it holds: null or some reference -/
def vx_Zq (C n d : String) (A : Nat → Prop) (U : State) (H : Heap) : Prop := va_Zq C n d A U H ∧ vx_L C n d A U H
theorem vx_Zq.moved {C n d : String} {A : Nat → Prop} {u U : State} {H : Heap} (hvm : u.vm.Alike U.vm) (h : vx_Zq C n d A u H) : vx_Zq C n d A U H := ⟨va_Zq.moved hvm h.1, vx_L.moved hvm h.2⟩
theorem vx_Zq.kept {C n d : String} {A : Nat → Prop} {U : State} {H H1 : Heap} (h : vx_Zq C n d A U H) (hq : ∀ a : Nat, a < H.size → ¬ A a → H1[a]? = H[a]?) : vx_Zq C n d A U H1 := ⟨va_Zq.kept h.1 hq, vx_L.kept h.2 hq⟩
theorem vx_Zq.narrow {C n d : String} {A B : Nat → Prop} {U : State} {H : Heap} (h : vx_Zq C n d A U H) (hAB : ∀ q, B q → A q) : vx_Zq C n d B U H := ⟨va_Zq.narrow h.1 hAB, vx_L.narrow h.2 hAB⟩
theorem vx_Zqof {args : Array Value} {s : State} {C n d : String} {A : Nat → Prop} (hl : (Cond.laysStatic C n d).before args s = true) (hini : (Cond.initialized C).before args s = true) (h : (Cond.isRef (.static C n d)).before args s = true) (hA : ∀ a : Nat, a < s.heap.size → ¬ A a) : vx_Zq C n d A s s.heap := by
  refine ⟨va_Zqof hl hini h hA, ?_⟩
  obtain ⟨c, k, i, f, a, cell, h1, h2, h3, h4, h5, h6, h7, h8, h9⟩ := Cond.laysStatic_spec hl
  exact ⟨c, k, i, f, a, cell, h1, h2, h3, h4, h5, h6, h7, h8, h9, hA a (Array.getElem?_eq_some_iff.mp h5).1⟩
theorem vx_isRef {C n d : String} {v : Value} {A : Nat → Prop} {s : State} {args : Array Value} (h : va_Z C n d v A s s.heap) (hv : v.isRef = true) : (Cond.isRef (.static C n d)).before args s = true := by
  obtain ⟨cf, kf, fi, f, a, cell, h1, h2, h3, h4, h5, h6, h7, -⟩ := h
  have he : (Term.static C n d).eval args s none [] s = some v := by
    simp [Term.eval, State.fieldNamed?, h1, h2, h4, h5, h6, h7]
  simp only [Cond.before, Cond.holds, Cond.value, he]
  cases v <;> simp_all [Value.isRef]
theorem vx_isRefq {C n d : String} {A : Nat → Prop} {s : State} {args : Array Value} (h : va_Zq C n d A s s.heap) : (Cond.isRef (.static C n d)).before args s = true := by
  rcases h with h | ⟨t, h⟩
  · exact vx_isRef h rfl
  · exact vx_isRef h rfl
/-- the same frame, seen from here: as if the method were called anew in this heap -/
theorem vx_rebase {T : State} (X : Stand p l e R s m args below meth c T locs cells slots) {R' : Room} (hf : R'.frames ≤ R.frames) (hl : R'.locals ≤ R.locals) (hc : cells + R'.cells ≤ R.cells) (hs : slots + R'.slots ≤ R.slots) :
    Stand p l e R' ((T.setVm s.vm).setFrames (.invoking m args :: below)) m args below meth c T [] 0 0 := by
  have htop : (T.setVm s.vm).topJava?.isSome := X.here.top
  have hF : ((T.setVm s.vm).setFrames (.invoking m args :: below)).frames = .invoking m args :: below := State.frames_setFrames _ (State.cur_lt_of_top htop)
  obtain ⟨g₀, hg0⟩ := Option.isSome_iff_exists.mp htop
  obtain ⟨r, hr⟩ := State.topJava?_eq_some.mp hg0
  have hl9 : e.platform.stackLimits (T.setVm s.vm).me = e.platform.stackLimits s.me := X.limits
  have hb9 : (T.setVm s.vm).me.stackBytes = s.me.stackBytes := X.bytes
  refine ⟨X.admits, X.cas, X.clock, hF, ?_, X.hears, X.method, X.code, X.here, X.tail, X.warmed, ?_, ?_, ?_⟩
  · have h := X.room
    have hU : ((T.setVm s.vm).setFrames (.invoking m args :: below)).localsInUse = s.localsInUse := by
      rw [State.localsInUse_invoking hF (meth := meth) (c := c) X.method X.code, State.localsInUse_invoking X.frames X.method X.code]
    simp only [State.hasRoom, Bool.and_eq_true, decide_eq_true_eq] at h ⊢
    obtain ⟨⟨⟨⟨h1, h2, h3, h4, h5, h6⟩, h7⟩, h8⟩, h9⟩ := h
    rw [X.frames, List.length_cons] at h2 h3
    have q1 := X.heapSize
    have q2 := X.used
    simp only [hF, hU, List.length_cons, State.stackLimits_setFrames, State.stackBytes_setFrames, hl9, hb9]
    refine ⟨⟨⟨⟨by omega, by omega, by omega, by omega, by omega, h6⟩, ?_⟩, ?_⟩, X.book⟩
    · show T.heap.size + R'.cells ≤ e.platform.maxCells
      omega
    · show T.slotsUsed + R'.slots ≤ e.platform.maxSlots
      omega
  · rw [State.stackLimits_setFrames]; rfl
  · rw [State.stackBytes_setFrames]; rfl
  · refine ⟨?_, Nat.le_refl _, Nat.le_refl _, ?_, ?_, fun a c9 h9 => ⟨c9, h9, rfl, rfl, fun _ _ => rfl⟩⟩
    · obtain ⟨t, ht, -⟩ := State.frames_cons hr
      show T.setVm s.vm = { ((T.setVm s.vm).setFrames (.invoking m args :: below)).setFrames (T.setVm s.vm).frames with heap := T.heap, slotsUsed := T.slotsUsed }
      rw [State.setFrames_setFrames, State.setFrames_self ht]
      rfl
    · show T.slotsUsed = T.slotsUsed + ((T.heap.toList.drop T.heap.size).map (·.slots.size)).sum
      rw [List.drop_eq_nil_of_le (Nat.le_of_eq Array.length_toList)]
      rfl
    · show ((T.heap.toList.drop T.heap.size).map (·.slots.size)).sum ≤ 0
      rw [List.drop_eq_nil_of_le (Nat.le_of_eq Array.length_toList)]
      exact Nat.le_refl _
/-- 'throw new E()': new; dup; invokespecial; athrow -/
theorem vx_throw0 {cc : ByteArray} {pc : Nat} (hexec : p.tables.exec = Jvm.exec) (hb : c.code = cc) (hl : l.stackTraces = false) {own cls : String} {names : List String} {ik ic mc ms : Nat} {A : Nat → Prop}
    (hown : s.vm.findClass own = some m.cls) (hcls : Bundle.fit cls = true) (hnames : ∀ n ∈ names, Bundle.fit n = true)
    (hk : (Cond.classLink own ik cls).before args s = true) (hini : (Cond.initialized cls).before args s = true) (hat : ∀ w ∈ vx_at0 own ic cls names, w.before args s = true)
    (hgood : ∀ w ∈ Cond.classLink own ik cls :: Cond.initialized cls :: vx_at0 own ic cls names, vx_ot w = true)
    (hU : vx_Zq Bundle.tN "UNASSIGNED_STACK" Bundle.steD A s s.heap) (hN : vx_Zq Bundle.tN "SUPPRESSED_SENTINEL" Bundle.listD A s s.heap) (hS : va_S A s.heap H locs) (hsize : ls.size = c.maxLocals)
    (d0 : decode cc pc = .ok (.new ik, 3)) (d3 : decode cc (pc + 3) = .ok (.dup, 1)) (d4 : decode cc (pc + 4) = .ok (.invokespecial ic, 3)) (d7 : decode cc (pc + 7) = .ok (.athrow, 1))
    (hout : ∀ x ∈ c.exceptionTable.toList, covers x (pc + 7) = false)
    (hRframes : names.length + 3 < R.frames) (hRlocals : (rest.map fun v => v.category).sum + (13 * (names.length + 1) + 42) ≤ R.locals) (hRcells : cells + 1 ≤ R.cells) (hRslots : slots + 6 ≤ R.slots) (hlocks : meth.locks = false)
    (hx : ∀ t : State, s.vm.Alike t.vm → H.size ≤ t.heap.size → (∀ q : Nat, q < H.size → t.heap[q]? = H[q]?) → XC cls s t)
    (hf : ∀ z ∈ locs, free z.base) (hc : cells + 1 ≤ mc) (hs : slots + 6 ≤ ms) :
    W p l e R s m args below meth c H locs cells slots (vx_MQ below Qc XC args s mc ms free) (F0 m pc ls rest) := by
  intro T hT X
  have htr : e.platform.stackTraces = false := (show e.platform.stackTraces = l.stackTraces by rw [X.admits.platform]).trans hl
  have Y := vx_rebase X (R' := { frames := R.frames, locals := R.locals, cells := 1, slots := 6 }) (Nat.le_refl _) (Nat.le_refl _) hRcells hRslots
  obtain ⟨s', hA⟩ : ∃ z, z = (T.setVm s.vm).setFrames (.invoking m args :: below) := ⟨_, rfl⟩
  rw [← hA] at Y
  have hvm : s'.vm = s.vm := by rw [hA]; rfl
  have hhp : s'.heap = H := by rw [hA]; exact hT
  have hW0 : s.WarmedH s'.vm := by rw [hvm]; exact State.WarmedH.refl s
  have hat' : ∀ w ∈ vx_at0 own ic cls names, w.before args s' = true := fun w hw => vx_ot_at hW0 hvm.symm (hgood w (List.mem_cons_of_mem _ (List.mem_cons_of_mem _ hw))) (hat w hw)
  have hk' : (Cond.classLink own ik cls).before args s' = true := vx_ot_at hW0 hvm.symm (hgood _ List.mem_cons_self) hk
  have hini' : (Cond.initialized cls).before args s' = true := vx_ot_at hW0 hvm.symm (hgood _ (List.mem_cons_of_mem _ List.mem_cons_self)) hini
  have hU' : vx_Zq Bundle.tN "UNASSIGNED_STACK" Bundle.steD A s' s'.heap := by rw [hhp]; exact vx_Zq.moved hW0.alike (hU.kept hS.2.1)
  have hN' : vx_Zq Bundle.tN "SUPPRESSED_SENTINEL" Bundle.listD A s' s'.heap := by rw [hhp]; exact vx_Zq.moved hW0.alike (hN.kept hS.2.1)
  have h : ∀ w ∈ Bundle.ownAtoms0 own ic cls names, w.before args s' = true := vx_own hat' (vx_isRefq hU'.1) (vx_isRefq hN'.1) hU'.2.word hN'.2.word
  have hown' : s'.vm.findClass own = some m.cls := by rw [hvm]; exact hown
  have hins : (Cond.instantiable cls 6).before args s' = true := h _ (by simp [Bundle.ownAtoms0])
  obtain ⟨vm₁, cX, kX, hfX, hkX, -, -, X₁, st1⟩ := Y.newCold hexec (own := own) (C := cls) (index := ik) (n := 6) hown' hk' hins hini'
    (g := F0 m pc ls rest) rfl (by rw [hb]; exact d0) (Nat.le_refl _) (Nat.le_refl _)
  generalize hT1 : (T.setVm vm₁).pushCell { cls := cX, slots := kX.instanceTypes.map defaultValue, vm := .none } = T1 at X₁ st1
  have hcat : (Value.ref T.heap.size).category = 1 := rfl
  have hcellA : T1.heap[T.heap.size]? = some (freshCell cX kX) := by rw [← hT1]; exact State.heap_pushCell_size _ _
  have d3' : decode c.code (pc + 3) = .ok (.dup, 1) := by rw [hb]; exact d3
  obtain ⟨U, hsteps, hrun, hend, hW, hsame, ce, hce, hO⟩ := X₁.ctorThrow0 hexec htr (own := own) (cls := cls) (names := names) (ic := ic) hown' hcls hnames h (fun x hx => nomatch hx) hfX hkX hcellA (by rw [hhp, hT]; exact Nat.le_refl _)
    (g := { method := m, pc := pc + 4, locals := ls, stack := .ref T.heap.size :: .ref T.heap.size :: rest, locked := none }) rfl hsize rfl rfl (rest := rest) rfl
    (by rw [hb]; exact d4) (by rw [hb]; exact d7) hout hRframes (by simp only [List.map_cons, List.sum_cons, hcat]; omega) hlocks
  obtain ⟨f1, f2⟩ := vx_frame hsame
  rw [hhp] at f1 f2
  have hWs : s.WarmedH U.vm := State.WarmedH.trans hW0 hW
  have hcl : s.vm.findClass cls = some ce.cls := by
    have h9 := hO.cls
    rw [hvm] at h9
    exact h9
  have hall : s.sameButNew ({ U with vm := s.vm } : State) locs mc ms := by
    subst hA
    obtain ⟨e1, e2⟩ := hsame
    rw [State.setFrames_setFrames] at e1
    have h2 : (T.setVm s.vm).sameButNew ({ U with vm := s.vm } : State) [] (0 + 1) (0 + 6) := ⟨e1, e2⟩
    have h3 := X.same.trans h2
    rw [List.append_nil] at h3
    exact h3.mono hc hs
  refine ⟨U, ?_, .threw T.heap.size, hrun, hend, Or.inr ⟨T.heap.size, rfl, cls, ce, locs, hx U hWs.alike f1 (fun q hq => f2 q hq (fun z hz => nomatch hz)), hce, hO.vm, hcl, hWs, hall, hf⟩⟩
  refine st1 _ ?_
  show Steps p.tables e below (T1.setTop { method := m, pc := pc + 3, locals := ls, stack := .ref T.heap.size :: rest, locked := none }) _
  jvm_step X₁.here [X₁.here.top, hexec, d3', Value.category]
  exact hsteps
/-- 'throw new E("text")': new; dup; ldc; invokespecial; athrow -/
theorem vx_throwS {cc : ByteArray} {pc : Nat} (hexec : p.tables.exec = Jvm.exec) (hb : c.code = cc) (hl : l.stackTraces = false) {own cls text : String} {names : List String} {ik is ic mc ms sa : Nat} {A : Nat → Prop}
    (hown : s.vm.findClass own = some m.cls) (hcls : Bundle.fit cls = true) (hnames : ∀ n ∈ names, Bundle.fit n = true)
    (hk : (Cond.classLink own ik cls).before args s = true) (hini : (Cond.initialized cls).before args s = true) (hstr : vk_R own is text sa s) (hat : ∀ w ∈ vx_atS own ic cls names, w.before args s = true)
    (hgood : ∀ w ∈ Cond.classLink own ik cls :: Cond.initialized cls :: vx_atS own ic cls names, vx_ot w = true)
    (hU : vx_Zq Bundle.tN "UNASSIGNED_STACK" Bundle.steD A s s.heap) (hN : vx_Zq Bundle.tN "SUPPRESSED_SENTINEL" Bundle.listD A s s.heap) (hS : va_S A s.heap H locs) (hsize : ls.size = c.maxLocals)
    (d0 : decode cc pc = .ok (.new ik, 3)) (d3 : decode cc (pc + 3) = .ok (.dup, 1)) (d4 : decode cc (pc + 4) = .ok (.ldc is, 2)) (d6 : decode cc (pc + 6) = .ok (.invokespecial ic, 3)) (d9 : decode cc (pc + 9) = .ok (.athrow, 1))
    (hout : ∀ x ∈ c.exceptionTable.toList, covers x (pc + 9) = false)
    (hRframes : names.length + 3 < R.frames) (hRlocals : (rest.map fun v => v.category).sum + (13 * (names.length + 1) + 43) ≤ R.locals) (hRcells : cells + 1 ≤ R.cells) (hRslots : slots + 6 ≤ R.slots) (hlocks : meth.locks = false)
    (hx : ∀ t : State, s.vm.Alike t.vm → H.size ≤ t.heap.size → (∀ q : Nat, q < H.size → t.heap[q]? = H[q]?) → XC cls s t)
    (hf : ∀ z ∈ locs, free z.base) (hc : cells + 1 ≤ mc) (hs : slots + 6 ≤ ms) :
    W p l e R s m args below meth c H locs cells slots (vx_MQ below Qc XC args s mc ms free) (F0 m pc ls rest) := by
  intro T hT X
  have htr : e.platform.stackTraces = false := (show e.platform.stackTraces = l.stackTraces by rw [X.admits.platform]).trans hl
  have Y := vx_rebase X (R' := { frames := R.frames, locals := R.locals, cells := 1, slots := 6 }) (Nat.le_refl _) (Nat.le_refl _) hRcells hRslots
  obtain ⟨s', hA⟩ : ∃ z, z = (T.setVm s.vm).setFrames (.invoking m args :: below) := ⟨_, rfl⟩
  rw [← hA] at Y
  have hvm : s'.vm = s.vm := by rw [hA]; rfl
  have hhp : s'.heap = H := by rw [hA]; exact hT
  have hW0 : s.WarmedH s'.vm := by rw [hvm]; exact State.WarmedH.refl s
  have hat' : ∀ w ∈ vx_atS own ic cls names, w.before args s' = true := fun w hw => vx_ot_at hW0 hvm.symm (hgood w (List.mem_cons_of_mem _ (List.mem_cons_of_mem _ hw))) (hat w hw)
  have hk' : (Cond.classLink own ik cls).before args s' = true := vx_ot_at hW0 hvm.symm (hgood _ List.mem_cons_self) hk
  have hini' : (Cond.initialized cls).before args s' = true := vx_ot_at hW0 hvm.symm (hgood _ (List.mem_cons_of_mem _ List.mem_cons_self)) hini
  have hU' : vx_Zq Bundle.tN "UNASSIGNED_STACK" Bundle.steD A s' s'.heap := by rw [hhp]; exact vx_Zq.moved hW0.alike (hU.kept hS.2.1)
  have hN' : vx_Zq Bundle.tN "SUPPRESSED_SENTINEL" Bundle.listD A s' s'.heap := by rw [hhp]; exact vx_Zq.moved hW0.alike (hN.kept hS.2.1)
  have h : ∀ w ∈ Bundle.ownAtoms own ic cls names, w.before args s' = true := vx_own hat' (vx_isRefq hU'.1) (vx_isRefq hN'.1) hU'.2.word hN'.2.word
  have hown' : s'.vm.findClass own = some m.cls := by rw [hvm]; exact hown
  have hins : (Cond.instantiable cls 6).before args s' = true := h _ (by simp [Bundle.ownAtoms])
  obtain ⟨vm₁, cX, kX, hfX, hkX, -, -, X₁, st1⟩ := Y.newCold hexec (own := own) (C := cls) (index := ik) (n := 6) hown' hk' hins hini'
    (g := F0 m pc ls rest) rfl (by rw [hb]; exact d0) (Nat.le_refl _) (Nat.le_refl _)
  generalize hT1 : (T.setVm vm₁).pushCell { cls := cX, slots := kX.instanceTypes.map defaultValue, vm := .none } = T1 at X₁ st1
  have hcat : (Value.ref T.heap.size).category = 1 := rfl
  have hcellA : T1.heap[T.heap.size]? = some (freshCell cX kX) := by rw [← hT1]; exact State.heap_pushCell_size _ _
  have d3' : decode c.code (pc + 3) = .ok (.dup, 1) := by rw [hb]; exact d3
  have d4' : decode c.code (pc + 4) = .ok (.ldc is, 2) := by rw [hb]; exact d4
  have hstr' : vk_R own is text sa s' := vk_R.warm hW0 hstr
  obtain ⟨U, hsteps, hrun, hend, hW, hsame, ce, hce, hO⟩ := X₁.ctorThrowS hexec htr (own := own) (cls := cls) (names := names) (ic := ic) hown' hcls hnames h (fun x hx => nomatch hx) hfX hkX hcellA (by rw [hhp, hT]; exact Nat.le_refl _) (msg := .ref sa) rfl
    (g := { method := m, pc := pc + 6, locals := ls, stack := .ref sa :: .ref T.heap.size :: .ref T.heap.size :: rest, locked := none }) rfl hsize rfl rfl (rest := rest) rfl
    (by rw [hb]; exact d6) (by rw [hb]; exact d9) hout hRframes (by simp only [List.map_cons, List.sum_cons, hcat]; omega) hlocks
  obtain ⟨f1, f2⟩ := vx_frame hsame
  rw [hhp] at f1 f2
  have hWs : s.WarmedH U.vm := State.WarmedH.trans hW0 hW
  have hcl : s.vm.findClass cls = some ce.cls := by
    have h9 := hO.cls
    rw [hvm] at h9
    exact h9
  have hall : s.sameButNew ({ U with vm := s.vm } : State) locs mc ms := by
    subst hA
    obtain ⟨e1, e2⟩ := hsame
    rw [State.setFrames_setFrames] at e1
    have h2 : (T.setVm s.vm).sameButNew ({ U with vm := s.vm } : State) [] (0 + 1) (0 + 6) := ⟨e1, e2⟩
    have h3 := X.same.trans h2
    rw [List.append_nil] at h3
    exact h3.mono hc hs
  refine ⟨U, ?_, .threw T.heap.size, hrun, hend, Or.inr ⟨T.heap.size, rfl, cls, ce, locs, hx U hWs.alike f1 (fun q hq => f2 q hq (fun z hz => nomatch hz)), hce, hO.vm, hcl, hWs, hall, hf⟩⟩
  refine st1 _ ?_
  show Steps p.tables e below (T1.setTop { method := m, pc := pc + 3, locals := ls, stack := .ref T.heap.size :: rest, locked := none }) _
  jvm_step X₁.here [X₁.here.top, hexec, d3', Value.category]
  exact X₁.ldcString hexec (own := own) (text := text) (index := is) (a := sa) hown' hstr'.1 hstr'.2
    (g := { method := m, pc := pc + 4, locals := ls, stack := .ref T.heap.size :: .ref T.heap.size :: rest, locked := none }) rfl d4' _ hsteps
/-- 'throw new E("text")', the text by a wide index -/
theorem vx_throwSW {cc : ByteArray} {pc : Nat} (hexec : p.tables.exec = Jvm.exec) (hb : c.code = cc) (hl : l.stackTraces = false) {own cls text : String} {names : List String} {ik is ic mc ms sa : Nat} {A : Nat → Prop}
    (hown : s.vm.findClass own = some m.cls) (hcls : Bundle.fit cls = true) (hnames : ∀ n ∈ names, Bundle.fit n = true)
    (hk : (Cond.classLink own ik cls).before args s = true) (hini : (Cond.initialized cls).before args s = true) (hstr : vk_R own is text sa s) (hat : ∀ w ∈ vx_atS own ic cls names, w.before args s = true)
    (hgood : ∀ w ∈ Cond.classLink own ik cls :: Cond.initialized cls :: vx_atS own ic cls names, vx_ot w = true)
    (hU : vx_Zq Bundle.tN "UNASSIGNED_STACK" Bundle.steD A s s.heap) (hN : vx_Zq Bundle.tN "SUPPRESSED_SENTINEL" Bundle.listD A s s.heap) (hS : va_S A s.heap H locs) (hsize : ls.size = c.maxLocals)
    (d0 : decode cc pc = .ok (.new ik, 3)) (d3 : decode cc (pc + 3) = .ok (.dup, 1)) (d4 : decode cc (pc + 4) = .ok (.ldc_w is, 3)) (d7 : decode cc (pc + 7) = .ok (.invokespecial ic, 3)) (d10 : decode cc (pc + 10) = .ok (.athrow, 1))
    (hout : ∀ x ∈ c.exceptionTable.toList, covers x (pc + 10) = false)
    (hRframes : names.length + 3 < R.frames) (hRlocals : (rest.map fun v => v.category).sum + (13 * (names.length + 1) + 43) ≤ R.locals) (hRcells : cells + 1 ≤ R.cells) (hRslots : slots + 6 ≤ R.slots) (hlocks : meth.locks = false)
    (hx : ∀ t : State, s.vm.Alike t.vm → H.size ≤ t.heap.size → (∀ q : Nat, q < H.size → t.heap[q]? = H[q]?) → XC cls s t)
    (hf : ∀ z ∈ locs, free z.base) (hc : cells + 1 ≤ mc) (hs : slots + 6 ≤ ms) :
    W p l e R s m args below meth c H locs cells slots (vx_MQ below Qc XC args s mc ms free) (F0 m pc ls rest) := by
  intro T hT X
  have htr : e.platform.stackTraces = false := (show e.platform.stackTraces = l.stackTraces by rw [X.admits.platform]).trans hl
  have Y := vx_rebase X (R' := { frames := R.frames, locals := R.locals, cells := 1, slots := 6 }) (Nat.le_refl _) (Nat.le_refl _) hRcells hRslots
  obtain ⟨s', hA⟩ : ∃ z, z = (T.setVm s.vm).setFrames (.invoking m args :: below) := ⟨_, rfl⟩
  rw [← hA] at Y
  have hvm : s'.vm = s.vm := by rw [hA]; rfl
  have hhp : s'.heap = H := by rw [hA]; exact hT
  have hW0 : s.WarmedH s'.vm := by rw [hvm]; exact State.WarmedH.refl s
  have hat' : ∀ w ∈ vx_atS own ic cls names, w.before args s' = true := fun w hw => vx_ot_at hW0 hvm.symm (hgood w (List.mem_cons_of_mem _ (List.mem_cons_of_mem _ hw))) (hat w hw)
  have hk' : (Cond.classLink own ik cls).before args s' = true := vx_ot_at hW0 hvm.symm (hgood _ List.mem_cons_self) hk
  have hini' : (Cond.initialized cls).before args s' = true := vx_ot_at hW0 hvm.symm (hgood _ (List.mem_cons_of_mem _ List.mem_cons_self)) hini
  have hU' : vx_Zq Bundle.tN "UNASSIGNED_STACK" Bundle.steD A s' s'.heap := by rw [hhp]; exact vx_Zq.moved hW0.alike (hU.kept hS.2.1)
  have hN' : vx_Zq Bundle.tN "SUPPRESSED_SENTINEL" Bundle.listD A s' s'.heap := by rw [hhp]; exact vx_Zq.moved hW0.alike (hN.kept hS.2.1)
  have h : ∀ w ∈ Bundle.ownAtoms own ic cls names, w.before args s' = true := vx_own hat' (vx_isRefq hU'.1) (vx_isRefq hN'.1) hU'.2.word hN'.2.word
  have hown' : s'.vm.findClass own = some m.cls := by rw [hvm]; exact hown
  have hins : (Cond.instantiable cls 6).before args s' = true := h _ (by simp [Bundle.ownAtoms])
  obtain ⟨vm₁, cX, kX, hfX, hkX, -, -, X₁, st1⟩ := Y.newCold hexec (own := own) (C := cls) (index := ik) (n := 6) hown' hk' hins hini'
    (g := F0 m pc ls rest) rfl (by rw [hb]; exact d0) (Nat.le_refl _) (Nat.le_refl _)
  generalize hT1 : (T.setVm vm₁).pushCell { cls := cX, slots := kX.instanceTypes.map defaultValue, vm := .none } = T1 at X₁ st1
  have hcat : (Value.ref T.heap.size).category = 1 := rfl
  have hcellA : T1.heap[T.heap.size]? = some (freshCell cX kX) := by rw [← hT1]; exact State.heap_pushCell_size _ _
  have d3' : decode c.code (pc + 3) = .ok (.dup, 1) := by rw [hb]; exact d3
  have d4' : decode c.code (pc + 4) = .ok (.ldc_w is, 3) := by rw [hb]; exact d4
  have hstr' : vk_R own is text sa s' := vk_R.warm hW0 hstr
  obtain ⟨U, hsteps, hrun, hend, hW, hsame, ce, hce, hO⟩ := X₁.ctorThrowS hexec htr (own := own) (cls := cls) (names := names) (ic := ic) hown' hcls hnames h (fun x hx => nomatch hx) hfX hkX hcellA (by rw [hhp, hT]; exact Nat.le_refl _) (msg := .ref sa) rfl
    (g := { method := m, pc := pc + 7, locals := ls, stack := .ref sa :: .ref T.heap.size :: .ref T.heap.size :: rest, locked := none }) rfl hsize rfl rfl (rest := rest) rfl
    (by rw [hb]; exact d7) (by rw [hb]; exact d10) hout hRframes (by simp only [List.map_cons, List.sum_cons, hcat]; omega) hlocks
  obtain ⟨f1, f2⟩ := vx_frame hsame
  rw [hhp] at f1 f2
  have hWs : s.WarmedH U.vm := State.WarmedH.trans hW0 hW
  have hcl : s.vm.findClass cls = some ce.cls := by
    have h9 := hO.cls
    rw [hvm] at h9
    exact h9
  have hall : s.sameButNew ({ U with vm := s.vm } : State) locs mc ms := by
    subst hA
    obtain ⟨e1, e2⟩ := hsame
    rw [State.setFrames_setFrames] at e1
    have h2 : (T.setVm s.vm).sameButNew ({ U with vm := s.vm } : State) [] (0 + 1) (0 + 6) := ⟨e1, e2⟩
    have h3 := X.same.trans h2
    rw [List.append_nil] at h3
    exact h3.mono hc hs
  refine ⟨U, ?_, .threw T.heap.size, hrun, hend, Or.inr ⟨T.heap.size, rfl, cls, ce, locs, hx U hWs.alike f1 (fun q hq => f2 q hq (fun z hz => nomatch hz)), hce, hO.vm, hcl, hWs, hall, hf⟩⟩
  refine st1 _ ?_
  show Steps p.tables e below (T1.setTop { method := m, pc := pc + 3, locals := ls, stack := .ref T.heap.size :: rest, locked := none }) _
  jvm_step X₁.here [X₁.here.top, hexec, d3', Value.category]
  exact X₁.ldcStringW hexec (own := own) (text := text) (index := is) (a := sa) hown' hstr'.1 hstr'.2
    (g := { method := m, pc := pc + 4, locals := ls, stack := .ref T.heap.size :: .ref T.heap.size :: rest, locked := none }) rfl d4' _ hsteps
end Ends
section Bodies
variable {l : Launch}
theorem vx_ofW {y : MethodName} {ws ws' : List Cond} {rm : Room} {Pc : Array Value → State → Prop} {Qc : Array Value → State → Outcome → State → Prop} {XC : String → State → State → Prop} {mc ms : Nat} {free : Addr → Prop} {cc : ByteArray} {maxL : Nat} {ret : Option FieldType}
    (hy : plainName y.cls = true) (hw : ws = Cond.code y cc maxL ret :: ws')
    (body : ∀ p e s m args below meth c s₁, BodyLoose p l y (headSpec ws rm) cc maxL ret e s m args below meth c s₁ → c.maxLocals = maxL → (∀ x ∈ c.exceptionTable.toList, False) → Pc args s →
      W p l e (headSpec ws rm).room s m args below meth c s.heap [] 0 0 (vx_MQ below Qc XC args s mc ms free) (entryFrame m args maxL)) : vx_Met l y ws rm Pc Qc XC mc ms free := by
  refine MetFree.of_bodyS (code := cc) (maxLocals := maxL) (ret := ret) hy ?_ ?_
  · intro args s m h hn
    obtain ⟨meth, c, h1, h2, h3, h4, h5, h6, -, -⟩ := Cond.code_spec hn (atoms_spec (ws := ws) h _ (by rw [hw]; exact List.mem_cons_self))
    exact ⟨meth, c, h1, h2, h3, h4, h5, h6⟩
  · intro p e s m args below meth c s₁ B hml hP _
    have hh0 : s₁.heap = s.heap := by rw [B.state]; rfl
    have ht : ∀ x ∈ c.exceptionTable.toList, False := by
      obtain ⟨meth9, c9, h1, h2, -, -, -, -, h7, -⟩ := Cond.code_spec B.named (atoms_spec (ws := ws) B.pre _ (by rw [hw]; exact List.mem_cons_self))
      cases Option.some.inj (h1.symm.trans B.method)
      cases Option.some.inj (h2.symm.trans (Stand.of_body B).code)
      intro x hx
      rw [Array.isEmpty_iff.mp h7] at hx
      cases hx
    obtain ⟨t, a1, o, b1, b2, b3⟩ := body p e s m args below meth c s₁ B hml ht hP s₁ hh0 (Stand.of_body B)
    exact ⟨t, o, a1, b1, b2, b3⟩
/-- the table of a body with handlers -/
theorem vx_table {p : Program} {x y : MethodName} {S : Spec} {cc bytes : ByteArray} {maxL maxL' : Nat} {ret ret' : Option FieldType} {e : Env} {s s₁ : State} {m : MethodId} {args : Array Value} {below : List Frame} {meth : Method} {c : Code} {hh : List (Nat × Nat × Nat × Nat)}
    (B : BodyLoose p l y S cc maxL ret e s m args below meth c s₁) (h : (Cond.codeWith y bytes maxL' ret' hh).before args s = true) : c.exceptionTable.toList = tableOf hh := by
  obtain ⟨m9, meth9, c9, hn9, h1, h2, -, -, h6, -⟩ := Cond.codeWith_spec h
  cases Option.some.inj (hn9.symm.trans B.named)
  cases Option.some.inj (h1.symm.trans B.method)
  cases Option.some.inj (h2.symm.trans (Stand.of_body B).code)
  rw [← h6, table_eq]
end Bodies
end VXA
/-! ===== END ===== -/
/-! ===== BEGIN a static call of a method with an exception table ===== -/
section VXS
variable {p : Program} {l : Launch} {e : Env} {R : Room} {s : State} {m : MethodId} {args : Array Value} {below : List Frame} {meth : Method} {c : Code} {T : State} {H : Heap} {locs : List Loc} {cells slots : Nat}
abbrev vx_CSW (R : Room) (s : State) (args : Array Value) (own : String) (index : Nat) (y : MethodName) (bytes : ByteArray) (maxL : Nat) (ret : Option FieldType) (hh : List (Nat × Nat × Nat × Nat)) (ws : List Cond) (rm : Room) (mc ms n : Nat) : Prop :=
  (rm.cells = mc ∧ rm.slots = ms ∧ rm.frames + 1 ≤ R.frames ∧ 8 + (maxL + 11) + rm.locals ≤ R.locals ∧ (∀ w ∈ ws, ∀ (a' : Array Value) (U : State), s.WarmedH U.vm → w.before a' U = true) ∧ Cond.codeWith y bytes maxL ret hh ∈ ws) ∧
  (Cond.codeWith y bytes maxL ret hh).before args s = true ∧ (Cond.initialized y.cls).before args s = true ∧ (y.cls ≠ "java/lang/invoke/MethodHandle" ∧ y.cls ≠ "java/lang/invoke/VarHandle") ∧
  (∀ sig, parseMethodDescriptor y.desc = some sig → n = sig.parameters.length) ∧ (Cond.methodLink own index y).before args s = true ∧ (Cond.static y).before args s = true
theorem vx_cwSW {own : String} {index maxL mc ms : Nat} {y : MethodName} {bytes : ByteArray} {ret : Option FieldType} {hh : List (Nat × Nat × Nat × Nat)} {Ts ws ws' : List Cond} {rm : Room} (n : Nat) (ht : ∀ w ∈ Ts, w.before args s = true) (hT : GoodIn Ts (va_wsS own index y ws)) (hw : ws = Cond.codeWith y bytes maxL ret hh :: ws') (hrc : rm.cells = mc) (hrs : rm.slots = ms)
    (hd : y.cls ≠ "java/lang/invoke/MethodHandle" ∧ y.cls ≠ "java/lang/invoke/VarHandle" ∧ (parseMethodDescriptor y.desc).map (fun d => d.parameters.length) = some n) (hR : rm.frames + 1 ≤ R.frames ∧ 8 + (maxL + 11) + rm.locals ≤ R.locals) :
    vx_CSW R s args own index y bytes maxL ret hh ws rm mc ms n := by
  have ok : ∀ w ∈ va_wsS own index y ws, w.before args s = true := fun w h => ht w (hT w h).1
  have hG : GoodIn Ts ws := fun w h => hT w (by unfold va_wsS; exact List.mem_append_right _ h)
  have hc : Cond.codeWith y bytes maxL ret hh ∈ ws := by rw [hw]; exact List.mem_cons_self
  refine ⟨⟨hrc, hrs, hR.1, hR.2, pay_in ht hG, hc⟩, ht _ (hG _ hc).1, ok _ (by simp [va_wsS]), ⟨hd.1, hd.2.1⟩, fun sig h => ?_, ok _ (by simp [va_wsS]), ok _ (by simp [va_wsS])⟩
  have h2 := hd.2.2
  rw [h] at h2
  exact (Option.some.inj h2).symm
theorem vx_callSW (X : Stand p l e R s m args below meth c T locs cells slots) (hexec : p.tables.exec = Jvm.exec) {own : String} {index : Nat} {y : MethodName} {bytes : ByteArray} {maxL : Nat} {ret : Option FieldType} {hh : List (Nat × Nat × Nat × Nat)}
    (hown : s.vm.findClass own = some m.cls) (hlink : (Cond.methodLink own index y).before args s = true) (hstat : (Cond.static y).before args s = true) (hinit : (Cond.initialized y.cls).before args s = true)
    (hcode : (Cond.codeWith y bytes maxL ret hh).before args s = true) (hy : y.cls ≠ "java/lang/invoke/MethodHandle" ∧ y.cls ≠ "java/lang/invoke/VarHandle")
    {W9 : Nat} {Pre : Pt → Array Value → Prop} {Post : Pt → Array Value → Option Value → Pt → Prop} (hK : Back l R p e below s args y 3 W9 Pre Post)
    {g : JFrame} (hg : g.method = m) (hsize : g.locals.size = c.maxLocals) {argsL rest : List Value} (hlen : ∀ sig, parseMethodDescriptor y.desc = some sig → argsL.length = sig.parameters.length)
    (hstack : g.stack = argsL.reverse ++ rest) (hW : 2 * g.monitorRoom + (rest.map fun v => v.category).sum ≤ W9) (hdg : decode c.code g.pc = .ok (.invokestatic index, 3))
    (hpre : ∀ vm₁, s.WarmedH vm₁ → Pre ⟨T.setVm vm₁, locs, cells, slots⟩ argsL.toArray) :
    ∃ (v : Option Value) (vm₁ : Vm) (B : Pt), s.WarmedH vm₁ ∧ Stand p l e R s m args below meth c B.U B.locs B.cells B.slots ∧ Post ⟨T.setVm vm₁, locs, cells, slots⟩ argsL.toArray v B ∧
      ∀ target, Steps p.tables e below (B.U.setTop { g with pc := g.pc + 3, stack := v.toList ++ rest }) target → Steps p.tables e below (T.setTop g) target := by
  obtain ⟨mk, methM, cM, hnamed, hmethM, -, -, -, -, -, -, hsigM⟩ := Cond.codeWith_spec hcode
  have hstatic : methM.isStatic = true := Cond.static_spec hnamed hmethM hstat
  obtain ⟨kP, hkP, -⟩ := className_of_methodNamed hnamed
  have hinitP : kP.init = .initialized := Cond.initialized_spec (findClass_of_methodNamed hnamed) hkP hinit
  obtain ⟨vm₁, X₁, hstep₁⟩ := X.invokestatic hexec hown hlink hnamed hmethM hstatic hkP hinitP hy (g := g) hg (argsL := argsL) (rest := rest) (hlen _ hsigM) hstack hdg
  obtain ⟨v, B, X', hpost, hsteps⟩ := hK m meth c ⟨T.setVm vm₁, locs, cells, slots⟩ { g with stack := rest } (.invokestatic index) mk argsL.toArray X₁ hg hsize hdg hW (X₁.named hnamed) (hpre vm₁ X₁.warmed)
  exact ⟨v, vm₁, B, X₁.warmed, X', hpost, fun target h => hstep₁ _ fun acts => by rw [doInvoke_state]; exact hsteps.trans h⟩
theorem vx_runSW {y : MethodName} {bytes cc : ByteArray} {maxL nL mc ms n index : Nat} {ret : Option FieldType} {hh : List (Nat × Nat × Nat × Nat)} {ws : List Cond} {rm : Room} {Pc : Array Value → State → Prop} {Qc : Array Value → State → Outcome → State → Prop} {free : Addr → Prop} {Ts : List Cond} {own : String} {As rest : List Value} {g : JFrame}
    (S : CallFix p m c cc nL s args Ts own) (hM : Met l y ws rm Pc Qc mc ms free) (cw : vx_CSW R s args own index y bytes maxL ret hh ws rm mc ms n) (hp : PreS s H Pc As)
    (hg : g.method = m) (hn : As.length = n) (hsize : g.locals.size = nL) (hstack : g.stack = As.reverse ++ rest) (hW : 2 * g.monitorRoom + (rest.map fun v => v.category).sum ≤ 8) (hdg : decode cc g.pc = .ok (.invokestatic index, 3)) (hf : cells + mc ≤ R.cells ∧ slots + ms ≤ R.slots) :
    va_Run p l e R s m args below meth c H locs cells slots mc ms g rest (Qc As.toArray) (free) := by
  obtain ⟨⟨hrc, hrs, hfr, hlo, hws, hcw⟩, hcode, hini, hy, hlen, hl, hstt⟩ := cw
  have hK : Back l R p e below s args y 3 8 (PreOf R mc ms Pc) (PostOf Qc mc ms free) := va_backW (hh := hh) (bytes := bytes) (maxL := maxL) (ret := ret) hM hp.1 hrc hrs hfr hlo hws hcw (fun a' U hW => word_at hW (Or.inl (by first | rfl | simp [Cond.onTables, Cond.keeps, Cond.steady])) hini)
  obtain ⟨hx, hb, hml, ho, -⟩ := S
  intro T hT X
  obtain ⟨v, vm₁, ⟨U', l2, c2, s2⟩, hW₁, X', ⟨g', mk, t, L, e1, e2, hq, h1, hL, h2, h3⟩, st⟩ := vx_callSW X hx (hh := hh) (bytes := bytes) (maxL := maxL) (ret := ret) ho hl hstt hini hcode hy hK hg (hsize.trans hml.symm) (argsL := As) (rest := rest) (fun sig h => hn.trans (hlen sig h)) hstack hW (by rw [hb]; exact hdg)
    (fun vm₁ hW₁ => ⟨hf.1, hf.2, hp.2 (T.setVm vm₁) hT hW₁⟩)
  dsimp only [Pt.U, Pt.locs, Pt.cells, Pt.slots] at X' e1 e2 h1 h2 h3 st
  subst h1; subst h2; subst h3
  exact ⟨v, (T.setVm vm₁).calling g' mk As.toArray, t, U', L, hT, X', hL, e1, e2, hq, st⟩
/-- a thing of a world lies in the heap -/
theorem vx_lt {D : va_G} {cl : List vw_C} {ws : va_W} {H1 : Heap} (h : va_P D cl ws H1) {k : Nat} {q : Nat × va_E} (hk : ws[k]? = some q) : q.1 < H1.size := (h k q hk).lt
end VXS
/-! ===== END ===== -/
/-! ===== BEGIN methods with a table of their own: called by a name, returning or throwing ===== -/
section VXH
/-! vx_backW, vx_callVX, vx_callSX, vx_callVW, vx_runVW, vx_runVX, vx_runSX, vx_ofWH follow the same proofs as their sisters above (Free/Laws.lean, Shelf42/LK1.lean); vx_outP calls Shelf42/NT130.lean (outThrough). -/
section
variable {l : Launch} {R : Room} {p : Program} {e : Env} {below : List Frame} {s : State} {sargs : Array Value} {y : MethodName} {len W9 : Nat}
theorem vx_backW {ws : List Cond} {rm : Room} {Pc : Array Value → State → Prop} {Qc : Array Value → State → Outcome → State → Prop} {XC : String → State → State → Prop} {mc ms : Nat} {free : Addr → Prop} {bytes : ByteArray} {maxL : Nat} {ret : Option FieldType} {hh : List (Nat × Nat × Nat × Nat)}
    (hM : vx_Met l y ws rm Pc Qc XC mc ms free) (hblind : FrameBlind Pc) (hrc : rm.cells = mc) (hrs : rm.slots = ms)
    (hframes : rm.frames + 1 ≤ R.frames) (hlocals : W9 + (maxL + 11) + rm.locals ≤ R.locals)
    (hws : ∀ w ∈ ws, ∀ a' U, s.WarmedH U.vm → w.before a' U = true) (hcode : Cond.codeWith y bytes maxL ret hh ∈ ws) (hinit : ∀ a' U, s.WarmedH U.vm → (Cond.initialized y.cls).before a' U = true) :
    vx_Back l R p e below s sargs y len W9 (PreOf R mc ms Pc) (PostOf Qc mc ms free) (vx_Post XC mc ms free) := by
  intro m meth c A g ig mk a X hg hsize hdg hW hn hp
  have h1 : (headSpec ws rm).pre.before a A.U = true := atoms_intro fun w hw => hws w hw _ _ X.warmed
  have h2 : (Cond.codeWith y bytes maxL ret hh).before a A.U = true := hws _ hcode _ _ X.warmed
  have h3 : (Cond.initialized y.cls).before a A.U = true := hinit _ _ X.warmed
  have h4 : A.cells + (headSpec ws rm).room.cells ≤ R.cells := by rw [show (headSpec ws rm).room.cells = mc from hrc]; exact hp.1
  have h5 : A.slots + (headSpec ws rm).room.slots ≤ R.slots := by rw [show (headSpec ws rm).room.slots = ms from hrs]; exact hp.2.1
  have hPc : Pc a (A.U.calling g mk a) := hblind _ _ _ _ hp.2.2
  obtain ⟨U, Ls, c0, s0⟩ := A
  dsimp only [Pt.U, Pt.locs, Pt.cells, Pt.slots] at h1 h2 h3 h4 h5 X hn hPc ⊢
  obtain ⟨m9, methY, cY, hn9, hmY, hcY, -, hlY, -⟩ := Cond.codeWith_spec h2
  cases Option.some.inj (hn9.symm.trans hn)
  obtain ⟨kY, hkY, -⟩ := className_of_methodNamed hn
  have hinitY : kY.init = .initialized := Cond.initialized_spec (findClass_of_methodNamed hn) hkY h3
  have h : At U g.method c below := by rw [hg]; exact X.here
  have hlocals9 : W9 + (maxL + 11) + (headSpec ws rm).room.locals ≤ R.locals := hlocals
  have happ : (headSpec ws rm).appliesLoose y e.platform (U.calling g mk a) = true :=
    Spec.appliesLoose_calling (g := g) h hdg hn hkY hinitY
      (X.room_calling (g := g) (R' := (headSpec ws rm).room) hsize hmY hcY hframes (by rw [hlY]; omega) h4 h5) h1
  obtain ⟨mid, hmid⟩ := h.above
  have hfr : (U.setTop g).frames = (.java g :: mid) ++ below := by rw [State.frames_setTop' g h.top, hmid]; rfl
  obtain ⟨o, s₂, hsteps, -, hend, hq⟩ := Steps.callFree hM p X.admits X.cas X.clock (acts := []) hfr happ hPc trivial
  have hq' : vx_Q Qc XC mc ms free a (U.calling g mk a) o s₂ := hq
  rw [State.frames_setTop' g h.top] at hend
  obtain ⟨g₀, hg0⟩ := Option.isSome_iff_exists.mp h.top
  obtain ⟨r, hr⟩ := State.topJava?_eq_some.mp hg0
  have hr' : (({ U with heap := s₂.heap, slotsUsed := s₂.slotsUsed } : State).setVm s₂.vm).frames = .java g₀ :: r := hr
  rcases hq' with ⟨hqc, L, hfe, hL⟩ | ⟨q, rfl, E, ce, L, hx, hce, hcv, hcl, hW₂, hsm, hL⟩
  · obtain ⟨⟨v, rfl⟩, hW₂, e2, q2, q3, q4, q5, q6⟩ := id hfe
    have e3 : s₂ = ({ (U.calling g mk a).setFrames s₂.frames with heap := s₂.heap, slotsUsed := s₂.slotsUsed } : State).setVm s₂.vm := by
      have : s₂ = ({ s₂ with vm := (U.calling g mk a).vm } : State).setVm s₂.vm := rfl
      rw [e2] at this
      exact this
    obtain ⟨c₂, i₂, len₂, hc₂, hd₂, hf₂⟩ := hend
    have hW' : U.WarmedH s₂.vm := hW₂
    have hcc : c₂ = c := by
      have h1 : s₂.code? g.method = U.code? g.method := by
        rw [State.code?_eq, State.code?_eq, hW'.alike.method?]
      exact Option.some.inj (hc₂.symm.trans (h1.trans h.code))
    subst hcc
    have hlen : len₂ = len := by rw [hdg] at hd₂; cases hd₂; rfl
    subst hlen
    have hs₂ : s₂ = (({ U with heap := s₂.heap, slotsUsed := s₂.slotsUsed } : State).setVm s₂.vm).setTop { g with pc := g.pc + len₂, stack := v.toList ++ g.stack } := by
      refine e3.trans ?_
      rw [hf₂, State.calling_eq h.top, State.setFrames_setFrames, State.setTop_of_frames _ hr', hr]
      rfl
    have hsame : U.sameButNew ({ U with heap := s₂.heap, slotsUsed := s₂.slotsUsed } : State) L mc ms := by
      refine ⟨?_, q2, q3, q4, q5, q6⟩
      obtain ⟨t, ht, -⟩ := State.frames_cons hr
      show ({ U with heap := s₂.heap, slotsUsed := s₂.slotsUsed } : State) = { U.setFrames U.frames with heap := s₂.heap, slotsUsed := s₂.slotsUsed }
      rw [State.setFrames_self ht]
    subst hg
    refine Or.inl ⟨v, ⟨(({ U with heap := s₂.heap, slotsUsed := s₂.slotsUsed } : State).setVm s₂.vm), Ls ++ L, c0 + mc, s0 + ms⟩,
      ⟨X.admits, X.cas, X.clock, X.frames, X.room, X.hears, X.method, X.code, (X.here.setHeapUsed s₂.heap s₂.slotsUsed).setVm hW'.alike, X.tail, State.WarmedH.trans X.warmed hW', X.limits, X.bytes, X.same.trans (hsame.setVm s.vm)⟩,
      ⟨g, mk, s₂, L, rfl, rfl, hqc, rfl, hL, rfl, rfl⟩, ?_⟩
    show Steps p.tables e below _ ((({ U with heap := s₂.heap, slotsUsed := s₂.slotsUsed } : State).setVm s₂.vm).setTop { g with pc := g.pc + len₂, stack := v.toList ++ g.stack })
    rw [← hs₂]
    exact hsteps
  · obtain ⟨e2, q2, q3, q4, q5, q6⟩ := id hsm
    have e3 : s₂ = ({ (U.calling g mk a).setFrames s₂.frames with heap := s₂.heap, slotsUsed := s₂.slotsUsed } : State).setVm s₂.vm := by
      have : s₂ = ({ s₂ with vm := (U.calling g mk a).vm } : State).setVm s₂.vm := rfl
      rw [e2] at this
      exact this
    have hf₂ : s₂.frames = .throwing q :: .java g :: U.frames.tail := hend
    have hW' : U.WarmedH s₂.vm := hW₂
    have hs₂ : s₂ = ((({ U with heap := s₂.heap, slotsUsed := s₂.slotsUsed } : State).setVm s₂.vm).setTop g).pushFrame (.throwing q) := by
      refine e3.trans ?_
      rw [hf₂, State.calling_eq h.top, State.setFrames_setFrames, State.pushFrame, State.frames_setTop _ hr', State.setTop_of_frames _ hr', State.setFrames_setFrames, hr]
      rfl
    have hsame : U.sameButNew ({ U with heap := s₂.heap, slotsUsed := s₂.slotsUsed } : State) L mc ms := by
      refine ⟨?_, q2, q3, q4, q5, q6⟩
      obtain ⟨t, ht, -⟩ := State.frames_cons hr
      show ({ U with heap := s₂.heap, slotsUsed := s₂.slotsUsed } : State) = { U.setFrames U.frames with heap := s₂.heap, slotsUsed := s₂.slotsUsed }
      rw [State.setFrames_self ht]
    subst hg
    refine Or.inr ⟨q, ⟨(({ U with heap := s₂.heap, slotsUsed := s₂.slotsUsed } : State).setVm s₂.vm), Ls ++ L, c0 + mc, s0 + ms⟩,
      ⟨X.admits, X.cas, X.clock, X.frames, X.room, X.hears, X.method, X.code, (X.here.setHeapUsed s₂.heap s₂.slotsUsed).setVm hW'.alike, X.tail, State.WarmedH.trans X.warmed hW', X.limits, X.bytes, X.same.trans (hsame.setVm s.vm)⟩,
      ⟨g, mk, s₂, L, E, ce, rfl, rfl, hx, hce, hcv, hcl, rfl, hL, rfl, rfl⟩, ?_⟩
    show Steps p.tables e below _ (((({ U with heap := s₂.heap, slotsUsed := s₂.slotsUsed } : State).setVm s₂.vm).setTop g).pushFrame (.throwing q))
    rw [← hs₂]
    exact hsteps
end
variable {p : Program} {l : Launch} {e : Env} {R : Room} {s : State} {m : MethodId} {args : Array Value} {below : List Frame} {meth : Method} {c : Code} {T : State} {H : Heap} {locs : List Loc} {cells slots : Nat}
theorem vx_callVX (X : Stand p l e R s m args below meth c T locs cells slots) (hexec : p.tables.exec = Jvm.exec) {own C : String} {index : Nat} {y : MethodName} {bytes : ByteArray} {maxL : Nat} {ret : Option FieldType} {hh : List (Nat × Nat × Nat × Nat)}
    (hown : s.vm.findClass own = some m.cls) (hlink : (Cond.methodLink own index y).before args s = true) (hinst : (Cond.instanceMethod y).before args s = true) (hsel : (Cond.selects C y y).before args s = true)
    (hcode : (Cond.codeWith y bytes maxL ret hh).before args s = true) (hy : y.cls ≠ "java/lang/invoke/MethodHandle" ∧ y.cls ≠ "java/lang/invoke/VarHandle")
    {W9 : Nat} {Pre : Pt → Array Value → Prop} {Post : Pt → Array Value → Option Value → Pt → Prop} {PostX : Pt → Array Value → Addr → Pt → Prop} (hK : vx_Back l R p e below s args y 3 W9 Pre Post PostX)
    {b : Addr} {cellB : Cell} (hcell : T.heap[b]? = some cellB) (hobj : cellB.vm.isStatics = false) (hcls : s.vm.findClass C = some cellB.cls)
    {g : JFrame} (hg : g.method = m) (hsize : g.locals.size = c.maxLocals) {argsL rest : List Value} (hlen : ∀ sig, parseMethodDescriptor y.desc = some sig → argsL.length = sig.parameters.length)
    (hstack : g.stack = argsL.reverse ++ .ref b :: rest) (hW : 2 * g.monitorRoom + (rest.map fun v => v.category).sum ≤ W9) (hdg : decode c.code g.pc = .ok (.invokevirtual index, 3))
    (hpre : ∀ vm₁, s.WarmedH vm₁ → Pre ⟨T.setVm vm₁, locs, cells, slots⟩ (Value.ref b :: argsL).toArray) :
    (∃ (v : Option Value) (vm₁ : Vm) (B : Pt), s.WarmedH vm₁ ∧ Stand p l e R s m args below meth c B.U B.locs B.cells B.slots ∧ Post ⟨T.setVm vm₁, locs, cells, slots⟩ (Value.ref b :: argsL).toArray v B ∧
      ∀ target, Steps p.tables e below (B.U.setTop { g with pc := g.pc + 3, stack := v.toList ++ rest }) target → Steps p.tables e below (T.setTop g) target) ∨
    (∃ (q : Addr) (vm₁ : Vm) (B : Pt), s.WarmedH vm₁ ∧ Stand p l e R s m args below meth c B.U B.locs B.cells B.slots ∧ PostX ⟨T.setVm vm₁, locs, cells, slots⟩ (Value.ref b :: argsL).toArray q B ∧
      Steps p.tables e below (T.setTop g) ((B.U.setTop { g with stack := rest }).pushFrame (.throwing q))) := by
  obtain ⟨mk, methM, hnamed, hmethM, hstM, habM⟩ := Cond.instanceMethod_spec hinst
  obtain ⟨m8, methM', cM, hn8, hmethM', -, -, -, -, -, -, hsigM⟩ := Cond.codeWith_spec hcode
  cases Option.some.inj (hn8.symm.trans hnamed)
  cases hmethM.symm.trans hmethM'
  obtain ⟨c2, r2, m2, q1, q2, q3, q4, kP, hkP, hkPi⟩ := Cond.selects_spec hsel
  cases hcls.symm.trans q1
  cases (State.methodFound?_of_named hnamed hy).symm.trans q2
  cases hnamed.symm.trans q3
  have hselP : selectMethod e.platform s.vm cellB.cls mk = .method mk := by rw [Launch.admits_selectMethod X.admits]; exact q4
  obtain ⟨vm₁, X₁, hstep₁⟩ := X.invokevirtual hexec hown hlink hnamed hmethM hstM hkP hkPi hy (a := b) (cell := cellB) hcell
    (fun z h => by rw [h] at hobj; cases hobj) hselP hmethM habM hkP hkPi (g := g) hg (argsL := argsL) (rest := rest) (hlen _ hsigM) hstack hdg
  rcases hK m meth c ⟨T.setVm vm₁, locs, cells, slots⟩ { g with stack := rest } (.invokevirtual index) mk (Value.ref b :: argsL).toArray X₁ hg hsize hdg hW (X₁.named hnamed) (hpre vm₁ X₁.warmed) with ⟨v, B, X', hpost, hsteps⟩ | ⟨q, B, X', hpost, hsteps⟩
  · exact Or.inl ⟨v, vm₁, B, X₁.warmed, X', hpost, fun target h => hstep₁ _ fun acts => by rw [doInvoke_state]; exact hsteps.trans h⟩
  · exact Or.inr ⟨q, vm₁, B, X₁.warmed, X', hpost, hstep₁ _ fun acts => by rw [doInvoke_state]; exact hsteps⟩
theorem vx_callSX (X : Stand p l e R s m args below meth c T locs cells slots) (hexec : p.tables.exec = Jvm.exec) {own : String} {index : Nat} {y : MethodName} {bytes : ByteArray} {maxL : Nat} {ret : Option FieldType} {hh : List (Nat × Nat × Nat × Nat)}
    (hown : s.vm.findClass own = some m.cls) (hlink : (Cond.methodLink own index y).before args s = true) (hstat : (Cond.static y).before args s = true) (hinit : (Cond.initialized y.cls).before args s = true)
    (hcode : (Cond.codeWith y bytes maxL ret hh).before args s = true) (hy : y.cls ≠ "java/lang/invoke/MethodHandle" ∧ y.cls ≠ "java/lang/invoke/VarHandle")
    {W9 : Nat} {Pre : Pt → Array Value → Prop} {Post : Pt → Array Value → Option Value → Pt → Prop} {PostX : Pt → Array Value → Addr → Pt → Prop} (hK : vx_Back l R p e below s args y 3 W9 Pre Post PostX)
    {g : JFrame} (hg : g.method = m) (hsize : g.locals.size = c.maxLocals) {argsL rest : List Value} (hlen : ∀ sig, parseMethodDescriptor y.desc = some sig → argsL.length = sig.parameters.length)
    (hstack : g.stack = argsL.reverse ++ rest) (hW : 2 * g.monitorRoom + (rest.map fun v => v.category).sum ≤ W9) (hdg : decode c.code g.pc = .ok (.invokestatic index, 3))
    (hpre : ∀ vm₁, s.WarmedH vm₁ → Pre ⟨T.setVm vm₁, locs, cells, slots⟩ argsL.toArray) :
    (∃ (v : Option Value) (vm₁ : Vm) (B : Pt), s.WarmedH vm₁ ∧ Stand p l e R s m args below meth c B.U B.locs B.cells B.slots ∧ Post ⟨T.setVm vm₁, locs, cells, slots⟩ argsL.toArray v B ∧
      ∀ target, Steps p.tables e below (B.U.setTop { g with pc := g.pc + 3, stack := v.toList ++ rest }) target → Steps p.tables e below (T.setTop g) target) ∨
    (∃ (q : Addr) (vm₁ : Vm) (B : Pt), s.WarmedH vm₁ ∧ Stand p l e R s m args below meth c B.U B.locs B.cells B.slots ∧ PostX ⟨T.setVm vm₁, locs, cells, slots⟩ argsL.toArray q B ∧
      Steps p.tables e below (T.setTop g) ((B.U.setTop { g with stack := rest }).pushFrame (.throwing q))) := by
  obtain ⟨mk, methM, cM, hnamed, hmethM, -, -, -, -, -, -, hsigM⟩ := Cond.codeWith_spec hcode
  have hstatic : methM.isStatic = true := Cond.static_spec hnamed hmethM hstat
  obtain ⟨kP, hkP, -⟩ := className_of_methodNamed hnamed
  have hinitP : kP.init = .initialized := Cond.initialized_spec (findClass_of_methodNamed hnamed) hkP hinit
  obtain ⟨vm₁, X₁, hstep₁⟩ := X.invokestatic hexec hown hlink hnamed hmethM hstatic hkP hinitP hy (g := g) hg (argsL := argsL) (rest := rest) (hlen _ hsigM) hstack hdg
  rcases hK m meth c ⟨T.setVm vm₁, locs, cells, slots⟩ { g with stack := rest } (.invokestatic index) mk argsL.toArray X₁ hg hsize hdg hW (X₁.named hnamed) (hpre vm₁ X₁.warmed) with ⟨v, B, X', hpost, hsteps⟩ | ⟨q, B, X', hpost, hsteps⟩
  · exact Or.inl ⟨v, vm₁, B, X₁.warmed, X', hpost, fun target h => hstep₁ _ fun acts => by rw [doInvoke_state]; exact hsteps.trans h⟩
  · exact Or.inr ⟨q, vm₁, B, X₁.warmed, X', hpost, hstep₁ _ fun acts => by rw [doInvoke_state]; exact hsteps⟩
theorem vx_callVW (X : Stand p l e R s m args below meth c T locs cells slots) (hexec : p.tables.exec = Jvm.exec) {own C : String} {index : Nat} {y : MethodName} {bytes : ByteArray} {maxL : Nat} {ret : Option FieldType} {hh : List (Nat × Nat × Nat × Nat)}
    (hown : s.vm.findClass own = some m.cls) (hlink : (Cond.methodLink own index y).before args s = true) (hinst : (Cond.instanceMethod y).before args s = true) (hsel : (Cond.selects C y y).before args s = true)
    (hcode : (Cond.codeWith y bytes maxL ret hh).before args s = true) (hy : y.cls ≠ "java/lang/invoke/MethodHandle" ∧ y.cls ≠ "java/lang/invoke/VarHandle")
    {W9 : Nat} {Pre : Pt → Array Value → Prop} {Post : Pt → Array Value → Option Value → Pt → Prop} (hK : Back l R p e below s args y 3 W9 Pre Post)
    {b : Addr} {cellB : Cell} (hcell : T.heap[b]? = some cellB) (hobj : cellB.vm.isStatics = false) (hcls : s.vm.findClass C = some cellB.cls)
    {g : JFrame} (hg : g.method = m) (hsize : g.locals.size = c.maxLocals) {argsL rest : List Value} (hlen : ∀ sig, parseMethodDescriptor y.desc = some sig → argsL.length = sig.parameters.length)
    (hstack : g.stack = argsL.reverse ++ .ref b :: rest) (hW : 2 * g.monitorRoom + (rest.map fun v => v.category).sum ≤ W9) (hdg : decode c.code g.pc = .ok (.invokevirtual index, 3))
    (hpre : ∀ vm₁, s.WarmedH vm₁ → Pre ⟨T.setVm vm₁, locs, cells, slots⟩ (Value.ref b :: argsL).toArray) :
    ∃ (v : Option Value) (vm₁ : Vm) (B : Pt), s.WarmedH vm₁ ∧ Stand p l e R s m args below meth c B.U B.locs B.cells B.slots ∧ Post ⟨T.setVm vm₁, locs, cells, slots⟩ (Value.ref b :: argsL).toArray v B ∧
      ∀ target, Steps p.tables e below (B.U.setTop { g with pc := g.pc + 3, stack := v.toList ++ rest }) target → Steps p.tables e below (T.setTop g) target := by
  obtain ⟨mk, methM, hnamed, hmethM, hstM, habM⟩ := Cond.instanceMethod_spec hinst
  obtain ⟨m8, methM', cM, hn8, hmethM', -, -, -, -, -, -, hsigM⟩ := Cond.codeWith_spec hcode
  cases Option.some.inj (hn8.symm.trans hnamed)
  cases hmethM.symm.trans hmethM'
  obtain ⟨c2, r2, m2, q1, q2, q3, q4, kP, hkP, hkPi⟩ := Cond.selects_spec hsel
  cases hcls.symm.trans q1
  cases (State.methodFound?_of_named hnamed hy).symm.trans q2
  cases hnamed.symm.trans q3
  have hselP : selectMethod e.platform s.vm cellB.cls mk = .method mk := by rw [Launch.admits_selectMethod X.admits]; exact q4
  obtain ⟨vm₁, X₁, hstep₁⟩ := X.invokevirtual hexec hown hlink hnamed hmethM hstM hkP hkPi hy (a := b) (cell := cellB) hcell
    (fun z h => by rw [h] at hobj; cases hobj) hselP hmethM habM hkP hkPi (g := g) hg (argsL := argsL) (rest := rest) (hlen _ hsigM) hstack hdg
  obtain ⟨v, B, X', hpost, hsteps⟩ := hK m meth c ⟨T.setVm vm₁, locs, cells, slots⟩ { g with stack := rest } (.invokevirtual index) mk (Value.ref b :: argsL).toArray X₁ hg hsize hdg hW (X₁.named hnamed) (hpre vm₁ X₁.warmed)
  exact ⟨v, vm₁, B, X₁.warmed, X', hpost, fun target h => hstep₁ _ fun acts => by rw [doInvoke_state]; exact hsteps.trans h⟩
abbrev vx_CVW (R : Room) (s : State) (args : Array Value) (own C : String) (index : Nat) (y : MethodName) (bytes : ByteArray) (maxL : Nat) (ret : Option FieldType) (hh : List (Nat × Nat × Nat × Nat)) (ws : List Cond) (rm : Room) (mc ms n : Nat) : Prop :=
  (rm.cells = mc ∧ rm.slots = ms ∧ rm.frames + 1 ≤ R.frames ∧ 8 + (maxL + 11) + rm.locals ≤ R.locals ∧ (∀ w ∈ ws, ∀ (a' : Array Value) (U : State), s.WarmedH U.vm → w.before a' U = true) ∧ Cond.codeWith y bytes maxL ret hh ∈ ws) ∧
  (Cond.codeWith y bytes maxL ret hh).before args s = true ∧ (Cond.initialized y.cls).before args s = true ∧ (y.cls ≠ "java/lang/invoke/MethodHandle" ∧ y.cls ≠ "java/lang/invoke/VarHandle") ∧
  (∀ sig, parseMethodDescriptor y.desc = some sig → n = sig.parameters.length) ∧ (Cond.methodLink own index y).before args s = true ∧ (Cond.instanceMethod y).before args s = true ∧ (Cond.selects C y y).before args s = true
theorem vx_cwVW {own C : String} {index maxL mc ms : Nat} {y : MethodName} {bytes : ByteArray} {ret : Option FieldType} {hh : List (Nat × Nat × Nat × Nat)} {Ts ws ws' : List Cond} {rm : Room} (n : Nat) (ht : ∀ w ∈ Ts, w.before args s = true) (hT : GoodIn Ts (wsV own index C y ws)) (hw : ws = Cond.codeWith y bytes maxL ret hh :: ws') (hrc : rm.cells = mc) (hrs : rm.slots = ms)
    (hd : y.cls = C ∧ y.cls ≠ "java/lang/invoke/MethodHandle" ∧ y.cls ≠ "java/lang/invoke/VarHandle" ∧ (parseMethodDescriptor y.desc).map (fun d => d.parameters.length) = some n) (hR : rm.frames + 1 ≤ R.frames ∧ 8 + (maxL + 11) + rm.locals ≤ R.locals) :
    vx_CVW R s args own C index y bytes maxL ret hh ws rm mc ms n := by
  obtain ⟨hC, hd⟩ := hd
  subst hC
  have ok : ∀ w ∈ wsV own index y.cls y ws, w.before args s = true := fun w h => ht w (hT w h).1
  have hG : GoodIn Ts ws := fun w h => hT w (by unfold wsV; exact List.mem_append_right _ h)
  have hc : Cond.codeWith y bytes maxL ret hh ∈ ws := by rw [hw]; exact List.mem_cons_self
  refine ⟨⟨hrc, hrs, hR.1, hR.2, pay_in ht hG, hc⟩, ht _ (hG _ hc).1, ok _ (by simp [wsV]), ⟨hd.1, hd.2.1⟩, fun sig h => ?_, ok _ (by simp [wsV]), ok _ (by simp [wsV]), ok _ (by simp [wsV])⟩
  have h2 := hd.2.2
  rw [h] at h2
  exact (Option.some.inj h2).symm
theorem vx_runVW {y : MethodName} {bytes cc : ByteArray} {maxL nL mc ms n index : Nat} {ret : Option FieldType} {hh : List (Nat × Nat × Nat × Nat)} {ws : List Cond} {rm : Room} {Pc : Array Value → State → Prop} {Qc : Array Value → State → Outcome → State → Prop} {free : Addr → Prop} {Ts : List Cond} {own C : String} {b : Addr} {As rest : List Value} {g : JFrame}
    (S : CallFix p m c cc nL s args Ts own) (hM : Met l y ws rm Pc Qc mc ms free) (cw : vx_CVW R s args own C index y bytes maxL ret hh ws rm mc ms n) (hp : PreV s H C b Pc As)
    (hg : g.method = m) (hn : As.length = n) (hsize : g.locals.size = nL) (hstack : g.stack = As.reverse ++ .ref b :: rest) (hW : 2 * g.monitorRoom + (rest.map fun v => v.category).sum ≤ 8) (hdg : decode cc g.pc = .ok (.invokevirtual index, 3)) (hf : cells + mc ≤ R.cells ∧ slots + ms ≤ R.slots) :
    va_Run p l e R s m args below meth c H locs cells slots mc ms g rest (Qc (Value.ref b :: As).toArray) free := by
  obtain ⟨⟨hrc, hrs, hfr, hlo, hws, hcw⟩, hcode, hini, hy, hlen, hl, hin, hse⟩ := cw
  have hK : Back l R p e below s args y 3 8 (PreOf R mc ms Pc) (PostOf Qc mc ms free) := va_backW (hh := hh) (bytes := bytes) (maxL := maxL) (ret := ret) hM hp.1 hrc hrs hfr hlo hws hcw (fun a' U hW => word_at hW (Or.inl (by first | rfl | simp [Cond.onTables, Cond.keeps, Cond.steady])) hini)
  obtain ⟨hx, hb, hml, ho, -⟩ := S
  obtain ⟨-, ⟨cellB, hcB, hoB, hclB⟩, hPc⟩ := hp
  intro T hT X
  obtain ⟨v, vm₁, ⟨U', l2, c2, s2⟩, hW₁, X', ⟨g', mk, t, L, e1, e2, hq, h1, hL, h2, h3⟩, st⟩ := vx_callVW X hx (C := C) (hh := hh) (bytes := bytes) (maxL := maxL) (ret := ret) ho hl hin hse hcode hy hK (by rw [hT]; exact hcB) hoB hclB hg (hsize.trans hml.symm) (argsL := As) (rest := rest) (fun sig h => hn.trans (hlen sig h)) hstack hW (by rw [hb]; exact hdg)
    (fun vm₁ hW₁ => ⟨hf.1, hf.2, hPc (T.setVm vm₁) hT hW₁⟩)
  dsimp only [Pt.U, Pt.locs, Pt.cells, Pt.slots] at X' e1 e2 h1 h2 h3 st
  subst h1; subst h2; subst h3
  exact ⟨v, (T.setVm vm₁).calling g' mk (Value.ref b :: As).toArray, t, U', L, hT, X', hL, e1, e2, hq, st⟩
section
variable {y : MethodName} {bytes cc : ByteArray} {maxL nL mc ms n index : Nat} {ret : Option FieldType} {ws : List Cond} {rm : Room} {Pc : Array Value → State → Prop} {Qc : Array Value → State → Outcome → State → Prop} {XC : String → State → State → Prop} {free : Addr → Prop} {Ts : List Cond} {own C : String} {b : Addr} {As rest : List Value} {g : JFrame}
theorem vx_runVX {hh : List (Nat × Nat × Nat × Nat)} (S : CallFix p m c cc nL s args Ts own) (hM : vx_Met l y ws rm Pc Qc XC mc ms free) (cw : vx_CVW R s args own C index y bytes maxL ret hh ws rm mc ms n) (hp : PreV s H C b Pc As)
    (hg : g.method = m) (hn : As.length = n) (hsize : g.locals.size = nL) (hstack : g.stack = As.reverse ++ .ref b :: rest) (hW : 2 * g.monitorRoom + (rest.map fun v => v.category).sum ≤ 8) (hdg : decode cc g.pc = .ok (.invokevirtual index, 3)) (hf : cells + mc ≤ R.cells ∧ slots + ms ≤ R.slots) :
    vx_Run p l e R s m args below meth c H locs cells slots mc ms g rest (Qc (Value.ref b :: As).toArray) XC free := by
  obtain ⟨⟨hrc, hrs, hfr, hlo, hws, hcw⟩, hcode, hini, hy, hlen, hl, hin, hse⟩ := cw
  have hK : vx_Back l R p e below s args y 3 8 (PreOf R mc ms Pc) (PostOf Qc mc ms free) (vx_Post XC mc ms free) := vx_backW (hh := hh) (bytes := bytes) (maxL := maxL) (ret := ret) hM hp.1 hrc hrs hfr hlo hws hcw (fun a' U hW => word_at hW (Or.inl (by first | rfl | simp [Cond.onTables, Cond.keeps, Cond.steady])) hini)
  obtain ⟨hx, hb, hml, ho, -⟩ := S
  obtain ⟨-, ⟨cellB, hcB, hoB, hclB⟩, hPc⟩ := hp
  intro T hT X
  rcases vx_callVX X hx (C := C) (hh := hh) (bytes := bytes) (maxL := maxL) (ret := ret) ho hl hin hse hcode hy hK (by rw [hT]; exact hcB) hoB hclB hg (hsize.trans hml.symm) (argsL := As) (rest := rest) (fun sig h => hn.trans (hlen sig h)) hstack hW (by rw [hb]; exact hdg)
    (fun vm₁ hW₁ => ⟨hf.1, hf.2, hPc (T.setVm vm₁) hT hW₁⟩) with ⟨v, vm₁, ⟨U', l2, c2, s2⟩, hW₁, X', ⟨g', mk, t, L, e1, e2, hq, h1, hL, h2, h3⟩, st⟩ | ⟨q, vm₁, ⟨U', l2, c2, s2⟩, hW₁, X', ⟨g', mk, t, L, E, ce, e1, e2, hq, hce, hcv, hcl, h1, hL, h2, h3⟩, st⟩
  · dsimp only [Pt.U, Pt.locs, Pt.cells, Pt.slots] at X' e1 e2 h1 h2 h3 st
    subst h1; subst h2; subst h3
    exact Or.inl ⟨v, (T.setVm vm₁).calling g' mk (Value.ref b :: As).toArray, t, U', L, hT, X', hL, e1, e2, hq, st⟩
  · dsimp only [Pt.U, Pt.locs, Pt.cells, Pt.slots] at X' e1 e2 h1 h2 h3 st hcl
    subst h1; subst h2; subst h3
    exact Or.inr ⟨q, (T.setVm vm₁).calling g' mk (Value.ref b :: As).toArray, t, U', L, E, ce, hT, X', hL, e1, e2, hq, hce, hcv, vx_cls hW₁ hcl, st⟩
theorem vx_runSX {hh : List (Nat × Nat × Nat × Nat)} (S : CallFix p m c cc nL s args Ts own) (hM : vx_Met l y ws rm Pc Qc XC mc ms free) (cw : vx_CSW R s args own index y bytes maxL ret hh ws rm mc ms n) (hp : PreS s H Pc As)
    (hg : g.method = m) (hn : As.length = n) (hsize : g.locals.size = nL) (hstack : g.stack = As.reverse ++ rest) (hW : 2 * g.monitorRoom + (rest.map fun v => v.category).sum ≤ 8) (hdg : decode cc g.pc = .ok (.invokestatic index, 3)) (hf : cells + mc ≤ R.cells ∧ slots + ms ≤ R.slots) :
    vx_Run p l e R s m args below meth c H locs cells slots mc ms g rest (Qc As.toArray) XC free := by
  obtain ⟨⟨hrc, hrs, hfr, hlo, hws, hcw⟩, hcode, hini, hy, hlen, hl, hstt⟩ := cw
  have hK : vx_Back l R p e below s args y 3 8 (PreOf R mc ms Pc) (PostOf Qc mc ms free) (vx_Post XC mc ms free) := vx_backW (hh := hh) (bytes := bytes) (maxL := maxL) (ret := ret) hM hp.1 hrc hrs hfr hlo hws hcw (fun a' U hW => word_at hW (Or.inl (by first | rfl | simp [Cond.onTables, Cond.keeps, Cond.steady])) hini)
  obtain ⟨hx, hb, hml, ho, -⟩ := S
  intro T hT X
  rcases vx_callSX X hx (hh := hh) (bytes := bytes) (maxL := maxL) (ret := ret) ho hl hstt hini hcode hy hK hg (hsize.trans hml.symm) (argsL := As) (rest := rest) (fun sig h => hn.trans (hlen sig h)) hstack hW (by rw [hb]; exact hdg)
    (fun vm₁ hW₁ => ⟨hf.1, hf.2, hp.2 (T.setVm vm₁) hT hW₁⟩) with ⟨v, vm₁, ⟨U', l2, c2, s2⟩, hW₁, X', ⟨g', mk, t, L, e1, e2, hq, h1, hL, h2, h3⟩, st⟩ | ⟨q, vm₁, ⟨U', l2, c2, s2⟩, hW₁, X', ⟨g', mk, t, L, E, ce, e1, e2, hq, hce, hcv, hcl, h1, hL, h2, h3⟩, st⟩
  · dsimp only [Pt.U, Pt.locs, Pt.cells, Pt.slots] at X' e1 e2 h1 h2 h3 st
    subst h1; subst h2; subst h3
    exact Or.inl ⟨v, (T.setVm vm₁).calling g' mk As.toArray, t, U', L, hT, X', hL, e1, e2, hq, st⟩
  · dsimp only [Pt.U, Pt.locs, Pt.cells, Pt.slots] at X' e1 e2 h1 h2 h3 st hcl
    subst h1; subst h2; subst h3
    exact Or.inr ⟨q, (T.setVm vm₁).calling g' mk As.toArray, t, U', L, E, ce, hT, X', hL, e1, e2, hq, hce, hcv, vx_cls hW₁ hcl, st⟩
end
end VXH
theorem vx_ofWH {l : Launch} {y : MethodName} {ws ws' : List Cond} {rm : Room} {Pc : Array Value → State → Prop} {Qc : Array Value → State → Outcome → State → Prop} {XC : String → State → State → Prop} {mc ms : Nat} {free : Addr → Prop} {cc : ByteArray} {maxL : Nat} {ret : Option FieldType} {hh : List (Nat × Nat × Nat × Nat)}
    (hy : plainName y.cls = true) (hw : ws = Cond.codeWith y cc maxL ret hh :: ws')
    (body : ∀ p e s m args below meth c s₁, BodyLoose p l y (headSpec ws rm) cc maxL ret e s m args below meth c s₁ → c.maxLocals = maxL → Pc args s →
      W p l e (headSpec ws rm).room s m args below meth c s.heap [] 0 0 (vx_MQ below Qc XC args s mc ms free) (entryFrame m args maxL)) : vx_Met l y ws rm Pc Qc XC mc ms free := by
  refine MetFree.of_bodyS (code := cc) (maxLocals := maxL) (ret := ret) hy ?_ ?_
  · intro args s m h hn
    obtain ⟨m9, meth, c, hn9, h1, h2, h3, h4, -, h5, h6, -⟩ := Cond.codeWith_spec (atoms_spec (ws := ws) h _ (by rw [hw]; exact List.mem_cons_self))
    cases hn.symm.trans hn9
    exact ⟨meth, c, h1, h2, h3, h4, h5, h6⟩
  · intro p e s m args below meth c s₁ B hml hP _
    have hh0 : s₁.heap = s.heap := by rw [B.state]; rfl
    obtain ⟨t, a1, o, b1, b2, b3⟩ := body p e s m args below meth c s₁ B hml hP s₁ hh0 (Stand.of_body B)
    exact ⟨t, o, a1, b1, b2, b3⟩
/-! ===== END ===== -/
end
section
/-! ===== BEGIN printed: names, fields, word lists, decode rows ===== -/
def RX0 : String := "LampLine$Echo"
def TX0 : u_T := fun k => match k with
  | _ => ("", "", "", false)
def tyX0 : Nat → FieldType := fun k => match k with
  | _ => .int
abbrev wsX00 : List Cond := u_ws RX0 TX0 0
theorem nmX0 : ∀ a, a < 0 → ∀ b, b < 0 → a ≠ b → (TX0 a).2.1 ≠ (TX0 b).2.1 := by decide +kernel
theorem tyX0_ok : ∀ k, k < 0 → parseFieldDescriptor (TX0 k).2.2.1 = some (tyX0 k) := by decide +kernel
abbrev cX0_write : ByteArray := prog_2_method_2_code
def yX0_write : MethodName := ⟨RX0, "write", "(JLLampLine$Row;)V"⟩
abbrev cX0_read : ByteArray := prog_2_method_3_code
def yX0_read : MethodName := ⟨RX0, "read", "(LLampLine$Row;)J"⟩
def RX1 : String := "LampLine$Lamp"
def TX1 : u_T := fun k => match k with
  | 0 => ("LampLine$Lamp", "id", "J", true)
  | 1 => ("LampLine$Lamp", "width", "I", true)
  | 2 => ("LampLine$Lamp", "modes", "I", true)
  | 3 => ("LampLine$Lamp", "levels", "[I", true)
  | 4 => ("LampLine$Lamp", "text", "LLampLine$Row;", true)
  | 5 => ("LampLine$Lamp", "laterTexts", "[LLampLine$Row;", true)
  | 6 => ("LampLine$Lamp", "isLater", "[Z", true)
  | 7 => ("LampLine$Lamp", "onTheWay", "I", false)
  | 8 => ("LampLine$Lamp", "waiting", "I", false)
  | 9 => ("LampLine$Lamp", "mode", "I", false)
  | 10 => ("LampLine$Lamp", "address", "I", false)
  | 11 => ("LampLine$Lamp", "silent", "Z", false)
  | 12 => ("LampLine$Lamp", "shows", "Z", false)
  | 13 => ("LampLine$Lamp", "orders", "I", false)
  | _ => ("LampLine$Lamp", "litAt", "I", false)
def tyX1 : Nat → FieldType := fun k => match k with
  | 0 => .long
  | 1 => .int
  | 2 => .int
  | 3 => .array .int
  | 4 => .object "LampLine$Row"
  | 5 => .array (.object "LampLine$Row")
  | 6 => .array .boolean
  | 7 => .int
  | 8 => .int
  | 9 => .int
  | 10 => .int
  | 11 => .boolean
  | 12 => .boolean
  | 13 => .int
  | _ => .int
abbrev wsX10 : List Cond := u_ws RX1 TX1 15
theorem nmX1 : ∀ a, a < 15 → ∀ b, b < 15 → a ≠ b → (TX1 a).2.1 ≠ (TX1 b).2.1 := by decide +kernel
theorem tyX1_ok : ∀ k, k < 15 → parseFieldDescriptor (TX1 k).2.2.1 = some (tyX1 k) := by decide +kernel
abbrev cX1_init : ByteArray := prog_3_method_1_code
def yX1_init : MethodName := ⟨RX1, "<init>", "(JIII)V"⟩
abbrev cX1_footprint : ByteArray := prog_3_method_2_code
def yX1_footprint : MethodName := ⟨RX1, "footprint", "()I"⟩
abbrev cX1_levelAt : ByteArray := prog_3_method_3_code
def yX1_levelAt : MethodName := ⟨RX1, "levelAt", "(I)I"⟩
abbrev cX1_isDark : ByteArray := prog_3_method_4_code
def yX1_isDark : MethodName := ⟨RX1, "isDark", "(I)Z"⟩
abbrev cX1_fact : ByteArray := prog_3_method_5_code
def yX1_fact : MethodName := ⟨RX1, "fact", "(II)I"⟩
abbrev cX1_ripen : ByteArray := prog_3_method_6_code
def yX1_ripen : MethodName := ⟨RX1, "ripen", "(I)V"⟩
abbrev cX1_shine : ByteArray := prog_3_method_7_code
def yX1_shine : MethodName := ⟨RX1, "shine", "(LLampLine$Row;I)V"⟩
abbrev cX1_isMeantBy : ByteArray := prog_3_method_8_code
def yX1_isMeantBy : MethodName := ⟨RX1, "isMeantBy", "(J)Z"⟩
abbrev cX1_speaksTo : ByteArray := prog_3_method_9_code
def yX1_speaksTo : MethodName := ⟨RX1, "speaksTo", "(LLampLine$Packet;LLampLine$Packet;LLampLine$Row;I)Z"⟩
abbrev cX1_speaksToSearch : ByteArray := prog_3_method_10_code
def yX1_speaksToSearch : MethodName := ⟨RX1, "speaksToSearch", "(LLampLine$Packet;LLampLine$Packet;LLampLine$Row;)Z"⟩
abbrev cX1_speaksToOrder : ByteArray := prog_3_method_11_code
def yX1_speaksToOrder : MethodName := ⟨RX1, "speaksToOrder", "(LLampLine$Packet;LLampLine$Packet;LLampLine$Row;I)Z"⟩
abbrev cX1_formRefusal : ByteArray := prog_3_method_12_code
def yX1_formRefusal : MethodName := ⟨RX1, "formRefusal", "(IIZI)I"⟩
abbrev cX1_isKnown : ByteArray := prog_3_method_13_code
def yX1_isKnown : MethodName := ⟨RX1, "isKnown", "(I)Z"⟩
abbrev cX1_valueRefusal : ByteArray := prog_3_method_14_code
def yX1_valueRefusal : MethodName := ⟨RX1, "valueRefusal", "(LLampLine$Packet;Z)I"⟩
abbrev cX1_obey : ByteArray := prog_3_method_15_code
def yX1_obey : MethodName := ⟨RX1, "obey", "(LLampLine$Packet;LLampLine$Packet;ZI)V"⟩
abbrev cX1_tell : ByteArray := prog_3_method_16_code
def yX1_tell : MethodName := ⟨RX1, "tell", "(ILLampLine$Packet;)V"⟩
def RX2 : String := "LampLine$Packet"
def TX2 : u_T := fun k => match k with
  | 0 => ("LampLine$Packet", "to", "J", false)
  | 1 => ("LampLine$Packet", "from", "J", false)
  | 2 => ("LampLine$Packet", "count", "I", false)
  | 3 => ("LampLine$Packet", "kind", "I", false)
  | 4 => ("LampLine$Packet", "messages", "I", false)
  | 5 => ("LampLine$Packet", "part", "I", false)
  | 6 => ("LampLine$Packet", "group", "I", false)
  | 7 => ("LampLine$Packet", "matter", "I", false)
  | _ => ("LampLine$Packet", "data", "LLampLine$Row;", true)
def tyX2 : Nat → FieldType := fun k => match k with
  | 0 => .long
  | 1 => .long
  | 2 => .int
  | 3 => .int
  | 4 => .int
  | 5 => .int
  | 6 => .int
  | 7 => .int
  | _ => .object "LampLine$Row"
abbrev wsX20 : List Cond := u_ws RX2 TX2 9
theorem nmX2 : ∀ a, a < 9 → ∀ b, b < 9 → a ≠ b → (TX2 a).2.1 ≠ (TX2 b).2.1 := by decide +kernel
theorem tyX2_ok : ∀ k, k < 9 → parseFieldDescriptor (TX2 k).2.2.1 = some (tyX2 k) := by decide +kernel
abbrev cX2_init : ByteArray := prog_4_method_1_code
def yX2_init : MethodName := ⟨RX2, "<init>", "()V"⟩
abbrev cX2_isCall : ByteArray := prog_4_method_2_code
def yX2_isCall : MethodName := ⟨RX2, "isCall", "()Z"⟩
abbrev cX2_readFrom : ByteArray := prog_4_method_3_code
def yX2_readFrom : MethodName := ⟨RX2, "readFrom", "(LLampLine$Row;)Z"⟩
abbrev cX2_writeTo : ByteArray := prog_4_method_4_code
def yX2_writeTo : MethodName := ⟨RX2, "writeTo", "(LLampLine$Row;)V"⟩
abbrev cX2_beginReply : ByteArray := prog_4_method_5_code
def yX2_beginReply : MethodName := ⟨RX2, "beginReply", "(LLampLine$Packet;J)V"⟩
abbrev cX2_refuse : ByteArray := prog_4_method_6_code
def yX2_refuse : MethodName := ⟨RX2, "refuse", "(I)V"⟩
def RX3 : String := "LampLine$Row"
def TX3 : u_T := fun k => match k with
  | 0 => ("LampLine$Row", "cells", "[I", true)
  | _ => ("LampLine$Row", "size", "I", false)
def tyX3 : Nat → FieldType := fun k => match k with
  | 0 => .array .int
  | _ => .int
abbrev wsX30 : List Cond := u_ws RX3 TX3 2
theorem nmX3 : ∀ a, a < 2 → ∀ b, b < 2 → a ≠ b → (TX3 a).2.1 ≠ (TX3 b).2.1 := by decide +kernel
theorem tyX3_ok : ∀ k, k < 2 → parseFieldDescriptor (TX3 k).2.2.1 = some (tyX3 k) := by decide +kernel
abbrev cX3_init : ByteArray := prog_5_method_1_code
def yX3_init : MethodName := ⟨RX3, "<init>", "(I)V"⟩
abbrev cX3_size : ByteArray := prog_5_method_2_code
def yX3_size : MethodName := ⟨RX3, "size", "()I"⟩
abbrev cX3_at : ByteArray := prog_5_method_3_code
def yX3_at : MethodName := ⟨RX3, "at", "(I)I"⟩
abbrev cX3_number : ByteArray := prog_5_method_4_code
def yX3_number : MethodName := ⟨RX3, "number", "(II)J"⟩
abbrev cX3_sum : ByteArray := prog_5_method_5_code
def yX3_sum : MethodName := ⟨RX3, "sum", "(II)I"⟩
abbrev cX3_cut : ByteArray := prog_5_method_6_code
def yX3_cut : MethodName := ⟨RX3, "cut", "(I)V"⟩
abbrev cX3_put : ByteArray := prog_5_method_7_code
def yX3_put : MethodName := ⟨RX3, "put", "(I)V"⟩
abbrev cX3_putNumber : ByteArray := prog_5_method_8_code
def yX3_putNumber : MethodName := ⟨RX3, "putNumber", "(JI)V"⟩
abbrev cX3_copyFrom : ByteArray := prog_5_method_9_code
def yX3_copyFrom : MethodName := ⟨RX3, "copyFrom", "(LLampLine$Row;)V"⟩
abbrev cX3_join : ByteArray := prog_5_method_10_code
def yX3_join : MethodName := ⟨RX3, "join", "(LLampLine$Row;)V"⟩
abbrev cX3_flip : ByteArray := prog_5_method_11_code
def yX3_flip : MethodName := ⟨RX3, "flip", "(II)V"⟩
def RX4 : String := "LampLine$Search"
def TX4 : u_T := fun k => match k with
  | 0 => ("LampLine$Search", "lows", "[J", true)
  | 1 => ("LampLine$Search", "highs", "[J", true)
  | 2 => ("LampLine$Search", "foundIds", "[J", true)
  | 3 => ("LampLine$Search", "begun", "Z", false)
  | 4 => ("LampLine$Search", "depth", "I", false)
  | 5 => ("LampLine$Search", "foundCount", "I", false)
  | _ => ("LampLine$Search", "steps", "I", false)
def tyX4 : Nat → FieldType := fun k => match k with
  | 0 => .array .long
  | 1 => .array .long
  | 2 => .array .long
  | 3 => .boolean
  | 4 => .int
  | 5 => .int
  | _ => .int
abbrev wsX40 : List Cond := u_ws RX4 TX4 7
theorem nmX4 : ∀ a, a < 7 → ∀ b, b < 7 → a ≠ b → (TX4 a).2.1 ≠ (TX4 b).2.1 := by decide +kernel
theorem tyX4_ok : ∀ k, k < 7 → parseFieldDescriptor (TX4 k).2.2.1 = some (tyX4 k) := by decide +kernel
abbrev cX4_init : ByteArray := prog_6_method_1_code
def yX4_init : MethodName := ⟨RX4, "<init>", "()V"⟩
abbrev cX4_begin : ByteArray := prog_6_method_2_code
def yX4_begin : MethodName := ⟨RX4, "begin", "()V"⟩
abbrev cX4_latestLow : ByteArray := prog_6_method_3_code
def yX4_latestLow : MethodName := ⟨RX4, "latestLow", "()J"⟩
abbrev cX4_latestHigh : ByteArray := prog_6_method_4_code
def yX4_latestHigh : MethodName := ⟨RX4, "latestHigh", "()J"⟩
abbrev cX4_takeLatest : ByteArray := prog_6_method_5_code
def yX4_takeLatest : MethodName := ⟨RX4, "takeLatest", "()V"⟩
abbrev cX4_pile : ByteArray := prog_6_method_6_code
def yX4_pile : MethodName := ⟨RX4, "pile", "(JJ)V"⟩
abbrev cX4_hasFound : ByteArray := prog_6_method_7_code
def yX4_hasFound : MethodName := ⟨RX4, "hasFound", "(J)Z"⟩
abbrev cX4_keepFound : ByteArray := prog_6_method_8_code
def yX4_keepFound : MethodName := ⟨RX4, "keepFound", "(J)V"⟩
def RX5 : String := "LampLine$Spoils"
def TX5 : u_T := fun k => match k with
  | 0 => ("LampLine$Spoils", "places", "[I", true)
  | 1 => ("LampLine$Spoils", "masks", "[I", true)
  | _ => ("LampLine$Spoils", "size", "I", false)
def tyX5 : Nat → FieldType := fun k => match k with
  | 0 => .array .int
  | 1 => .array .int
  | _ => .int
abbrev wsX50 : List Cond := u_ws RX5 TX5 3
theorem nmX5 : ∀ a, a < 3 → ∀ b, b < 3 → a ≠ b → (TX5 a).2.1 ≠ (TX5 b).2.1 := by decide +kernel
theorem tyX5_ok : ∀ k, k < 3 → parseFieldDescriptor (TX5 k).2.2.1 = some (tyX5 k) := by decide +kernel
abbrev cX5_init : ByteArray := prog_7_method_1_code
def yX5_init : MethodName := ⟨RX5, "<init>", "()V"⟩
abbrev cX5_add : ByteArray := prog_7_method_2_code
def yX5_add : MethodName := ⟨RX5, "add", "(II)V"⟩
abbrev cX5_dropFirst : ByteArray := prog_7_method_3_code
def yX5_dropFirst : MethodName := ⟨RX5, "dropFirst", "()V"⟩
abbrev cX5_applyTo : ByteArray := prog_7_method_4_code
def yX5_applyTo : MethodName := ⟨RX5, "applyTo", "(LLampLine$Row;)V"⟩
def RX6 : String := "LampLine"
def TX6 : u_T := fun k => match k with
  | 0 => ("LampLine", "tape", "LLampLine$Row;", true)
  | 1 => ("LampLine", "frame", "LLampLine$Row;", true)
  | 2 => ("LampLine", "voice", "LLampLine$Row;", true)
  | 3 => ("LampLine", "heardAnswer", "LLampLine$Row;", true)
  | 4 => ("LampLine", "question", "LLampLine$Packet;", true)
  | 5 => ("LampLine", "heard", "LLampLine$Packet;", true)
  | 6 => ("LampLine", "reply", "LLampLine$Packet;", true)
  | 7 => ("LampLine", "spoils", "LLampLine$Spoils;", true)
  | 8 => ("LampLine", "hunt", "LLampLine$Search;", true)
  | 9 => ("LampLine", "lamps", "[LLampLine$Lamp;", true)
  | 10 => ("LampLine", "lampCount", "I", false)
  | 11 => ("LampLine", "frameCount", "I", false)
  | _ => ("LampLine", "questionCount", "I", false)
def tyX6 : Nat → FieldType := fun k => match k with
  | 0 => .object "LampLine$Row"
  | 1 => .object "LampLine$Row"
  | 2 => .object "LampLine$Row"
  | 3 => .object "LampLine$Row"
  | 4 => .object "LampLine$Packet"
  | 5 => .object "LampLine$Packet"
  | 6 => .object "LampLine$Packet"
  | 7 => .object "LampLine$Spoils"
  | 8 => .object "LampLine$Search"
  | 9 => .array (.object "LampLine$Lamp")
  | 10 => .int
  | 11 => .int
  | _ => .int
abbrev wsX60 : List Cond := u_ws RX6 TX6 13
theorem nmX6 : ∀ a, a < 13 → ∀ b, b < 13 → a ≠ b → (TX6 a).2.1 ≠ (TX6 b).2.1 := by decide +kernel
theorem tyX6_ok : ∀ k, k < 13 → parseFieldDescriptor (TX6 k).2.2.1 = some (tyX6 k) := by decide +kernel
abbrev cX6_init : ByteArray := prog_1_method_1_code
def yX6_init : MethodName := ⟨RX6, "<init>", "()V"⟩
abbrev cX6_lamp : ByteArray := prog_1_method_2_code
def yX6_lamp : MethodName := ⟨RX6, "lamp", "(IJIII)I"⟩
abbrev cX6_feed : ByteArray := prog_1_method_3_code
def yX6_feed : MethodName := ⟨RX6, "feed", "(IIIII)I"⟩
abbrev cX6_end : ByteArray := prog_1_method_4_code
def yX6_end : MethodName := ⟨RX6, "end", "(I)V"⟩
abbrev cX6_send : ByteArray := prog_1_method_5_code
def yX6_send : MethodName := ⟨RX6, "send", "()I"⟩
abbrev cX6_answer : ByteArray := prog_1_method_6_code
def yX6_answer : MethodName := ⟨RX6, "answer", "(I)I"⟩
abbrev cX6_ask : ByteArray := prog_1_method_7_code
def yX6_ask : MethodName := ⟨RX6, "ask", "(IJIII)I"⟩
abbrev cX6_spoil : ByteArray := prog_1_method_8_code
def yX6_spoil : MethodName := ⟨RX6, "spoil", "(II)V"⟩
abbrev cX6_frames : ByteArray := prog_1_method_9_code
def yX6_frames : MethodName := ⟨RX6, "frames", "()I"⟩
abbrev cX6_about : ByteArray := prog_1_method_10_code
def yX6_about : MethodName := ⟨RX6, "about", "(II)I"⟩
abbrev cX6_rest : ByteArray := prog_1_method_11_code
def yX6_rest : MethodName := ⟨RX6, "rest", "(I)J"⟩
abbrev cX6_level : ByteArray := prog_1_method_12_code
def yX6_level : MethodName := ⟨RX6, "level", "(II)I"⟩
abbrev cX6_label : ByteArray := prog_1_method_13_code
def yX6_label : MethodName := ⟨RX6, "label", "(II)I"⟩
abbrev cX6_silence : ByteArray := prog_1_method_14_code
def yX6_silence : MethodName := ⟨RX6, "silence", "(IZ)I"⟩
abbrev cX6_search : ByteArray := prog_1_method_15_code
def yX6_search : MethodName := ⟨RX6, "search", "()I"⟩
abbrev cX6_step : ByteArray := prog_1_method_16_code
def yX6_step : MethodName := ⟨RX6, "step", "(I)I"⟩
abbrev cX6_found : ByteArray := prog_1_method_17_code
def yX6_found : MethodName := ⟨RX6, "found", "()I"⟩
abbrev cX6_id : ByteArray := prog_1_method_18_code
def yX6_id : MethodName := ⟨RX6, "id", "(I)J"⟩
abbrev cX6_branch : ByteArray := prog_1_method_19_code
def yX6_branch : MethodName := ⟨RX6, "branch", "(I)J"⟩
abbrev cX6_joinedId : ByteArray := prog_1_method_20_code
def yX6_joinedId : MethodName := ⟨RX6, "joinedId", "(IJ)J"⟩
abbrev cX6_makerOf : ByteArray := prog_1_method_21_code
def yX6_makerOf : MethodName := ⟨RX6, "makerOf", "(J)I"⟩
abbrev cX6_restOf : ByteArray := prog_1_method_22_code
def yX6_restOf : MethodName := ⟨RX6, "restOf", "(J)J"⟩
abbrev cX6_flag : ByteArray := prog_1_method_23_code
def yX6_flag : MethodName := ⟨RX6, "flag", "(Z)I"⟩
abbrev cX6_fits : ByteArray := prog_1_method_24_code
def yX6_fits : MethodName := ⟨RX6, "fits", "(II)Z"⟩
abbrev cX6_isThere : ByteArray := prog_1_method_25_code
def yX6_isThere : MethodName := ⟨RX6, "isThere", "(J)Z"⟩
abbrev cX6_lampAt : ByteArray := prog_1_method_26_code
def yX6_lampAt : MethodName := ⟨RX6, "lampAt", "(I)LLampLine$Lamp;"⟩
abbrev cX6_runFrame : ByteArray := prog_1_method_27_code
def yX6_runFrame : MethodName := ⟨RX6, "runFrame", "()V"⟩
abbrev cX6_beginQuestion : ByteArray := prog_1_method_28_code
def yX6_beginQuestion : MethodName := ⟨RX6, "beginQuestion", "(JII)V"⟩
abbrev cX6_writeSearch : ByteArray := prog_1_method_29_code
def yX6_writeSearch : MethodName := ⟨RX6, "writeSearch", "(JI)V"⟩
abbrev cX6_writeBranchSearch : ByteArray := prog_1_method_30_code
def yX6_writeBranchSearch : MethodName := ⟨RX6, "writeBranchSearch", "(JJ)V"⟩
abbrev cX6_isReplyFrom : ByteArray := prog_1_method_31_code
def yX6_isReplyFrom : MethodName := ⟨RX6, "isReplyFrom", "(J)Z"⟩
abbrev cX6_takeStep : ByteArray := prog_1_method_32_code
def yX6_takeStep : MethodName := ⟨RX6, "takeStep", "()V"⟩
abbrev cX6_tryId : ByteArray := prog_1_method_33_code
def yX6_tryId : MethodName := ⟨RX6, "tryId", "(J)I"⟩
def RX7 : String := "LampLineModel"
def TX7 : u_T := fun k => match k with
  | 0 => ("LampLineModel", "thrown", "I", false)
  | 1 => ("LampLineModel", "lamps", "I", false)
  | 2 => ("LampLineModel", "maker", "[I", true)
  | 3 => ("LampLineModel", "rest", "[J", true)
  | 4 => ("LampLineModel", "width", "[I", true)
  | 5 => ("LampLineModel", "modes", "[I", true)
  | 6 => ("LampLineModel", "mode", "[I", true)
  | 7 => ("LampLineModel", "address", "[I", true)
  | 8 => ("LampLineModel", "silent", "[Z", true)
  | 9 => ("LampLineModel", "shows", "[Z", true)
  | 10 => ("LampLineModel", "labelSize", "[I", true)
  | 11 => ("LampLineModel", "label", "[B", true)
  | 12 => ("LampLineModel", "asked", "[I", true)
  | 13 => ("LampLineModel", "levels", "[I", true)
  | 14 => ("LampLineModel", "lit", "[I", true)
  | 15 => ("LampLineModel", "laters", "[I", true)
  | 16 => ("LampLineModel", "due", "[I", true)
  | 17 => ("LampLineModel", "laterSize", "[I", true)
  | 18 => ("LampLineModel", "laterBytes", "[B", true)
  | 19 => ("LampLineModel", "tape", "[B", true)
  | 20 => ("LampLineModel", "taped", "I", false)
  | 21 => ("LampLineModel", "frames", "I", false)
  | 22 => ("LampLineModel", "frame", "[B", true)
  | 23 => ("LampLineModel", "frameSize", "I", false)
  | 24 => ("LampLineModel", "answer", "[B", true)
  | 25 => ("LampLineModel", "answered", "I", false)
  | 26 => ("LampLineModel", "reply", "[B", true)
  | 27 => ("LampLineModel", "replySize", "I", false)
  | 28 => ("LampLineModel", "spoils", "I", false)
  | 29 => ("LampLineModel", "spoilAt", "[I", true)
  | 30 => ("LampLineModel", "spoilMask", "[I", true)
  | 31 => ("LampLineModel", "counted", "I", false)
  | 32 => ("LampLineModel", "searching", "Z", false)
  | 33 => ("LampLineModel", "steps", "I", false)
  | 34 => ("LampLineModel", "branches", "I", false)
  | 35 => ("LampLineModel", "low", "[J", true)
  | 36 => ("LampLineModel", "high", "[J", true)
  | 37 => ("LampLineModel", "found", "I", false)
  | _ => ("LampLineModel", "foundId", "[J", true)
def tyX7 : Nat → FieldType := fun k => match k with
  | 0 => .int
  | 1 => .int
  | 2 => .array .int
  | 3 => .array .long
  | 4 => .array .int
  | 5 => .array .int
  | 6 => .array .int
  | 7 => .array .int
  | 8 => .array .boolean
  | 9 => .array .boolean
  | 10 => .array .int
  | 11 => .array .byte
  | 12 => .array .int
  | 13 => .array .int
  | 14 => .array .int
  | 15 => .array .int
  | 16 => .array .int
  | 17 => .array .int
  | 18 => .array .byte
  | 19 => .array .byte
  | 20 => .int
  | 21 => .int
  | 22 => .array .byte
  | 23 => .int
  | 24 => .array .byte
  | 25 => .int
  | 26 => .array .byte
  | 27 => .int
  | 28 => .int
  | 29 => .array .int
  | 30 => .array .int
  | 31 => .int
  | 32 => .boolean
  | 33 => .int
  | 34 => .int
  | 35 => .array .long
  | 36 => .array .long
  | 37 => .int
  | _ => .array .long
abbrev wsX70 : List Cond := u_ws RX7 TX7 39
theorem nmX7 : ∀ a, a < 39 → ∀ b, b < 39 → a ≠ b → (TX7 a).2.1 ≠ (TX7 b).2.1 := by decide +kernel
theorem tyX7_ok : ∀ k, k < 39 → parseFieldDescriptor (TX7 k).2.2.1 = some (tyX7 k) := by decide +kernel
abbrev cX7_init : ByteArray := prog_9_method_1_code
def yX7_init : MethodName := ⟨RX7, "<init>", "()V"⟩
abbrev cX7_thrown : ByteArray := prog_9_method_2_code
def yX7_thrown : MethodName := ⟨RX7, "thrown", "()I"⟩
abbrev cX7_in : ByteArray := prog_9_method_3_code
def yX7_in : MethodName := ⟨RX7, "in", "(JJJ)Z"⟩
abbrev cX7_goes : ByteArray := prog_9_method_4_code
def yX7_goes : MethodName := ⟨RX7, "goes", "(Z)Z"⟩
abbrev cX7_idOf : ByteArray := prog_9_method_5_code
def yX7_idOf : MethodName := ⟨RX7, "idOf", "(IJ)J"⟩
abbrev cX7_ownId : ByteArray := prog_9_method_6_code
def yX7_ownId : MethodName := ⟨RX7, "ownId", "(I)J"⟩
abbrev cX7_lamp : ByteArray := prog_9_method_7_code
def yX7_lamp : MethodName := ⟨RX7, "lamp", "(IJIII)I"⟩
abbrev cX7_feed : ByteArray := prog_9_method_8_code
def yX7_feed : MethodName := ⟨RX7, "feed", "(IIIII)I"⟩
abbrev cX7_end : ByteArray := prog_9_method_9_code
def yX7_end : MethodName := ⟨RX7, "end", "(I)V"⟩
abbrev cX7_at : ByteArray := prog_9_method_10_code
def yX7_at : MethodName := ⟨RX7, "at", "(I)I"⟩
abbrev cX7_two : ByteArray := prog_9_method_11_code
def yX7_two : MethodName := ⟨RX7, "two", "(I)I"⟩
abbrev cX7_six : ByteArray := prog_9_method_12_code
def yX7_six : MethodName := ⟨RX7, "six", "(I)J"⟩
abbrev cX7_footprint : ByteArray := prog_9_method_13_code
def yX7_footprint : MethodName := ⟨RX7, "footprint", "(I)I"⟩
abbrev cX7_doDue : ByteArray := prog_9_method_14_code
def yX7_doDue : MethodName := ⟨RX7, "doDue", "()V"⟩
abbrev cX7_waiting : ByteArray := prog_9_method_15_code
def yX7_waiting : MethodName := ⟨RX7, "waiting", "(I)I"⟩
abbrev cX7_look : ByteArray := prog_9_method_16_code
def yX7_look : MethodName := ⟨RX7, "look", "()V"⟩
abbrev cX7_takeLevels : ByteArray := prog_9_method_17_code
def yX7_takeLevels : MethodName := ⟨RX7, "takeLevels", "(I)V"⟩
abbrev cX7_isPacket : ByteArray := prog_9_method_18_code
def yX7_isPacket : MethodName := ⟨RX7, "isPacket", "()Z"⟩
abbrev cX7_fall : ByteArray := prog_9_method_19_code
def yX7_fall : MethodName := ⟨RX7, "fall", "()V"⟩
abbrev cX7_put : ByteArray := prog_9_method_20_code
def yX7_put : MethodName := ⟨RX7, "put", "(I)V"⟩
abbrev cX7_putTwo : ByteArray := prog_9_method_21_code
def yX7_putTwo : MethodName := ⟨RX7, "putTwo", "(I)V"⟩
abbrev cX7_putId : ByteArray := prog_9_method_22_code
def yX7_putId : MethodName := ⟨RX7, "putId", "(J)V"⟩
abbrev cX7_begin : ByteArray := prog_9_method_23_code
def yX7_begin : MethodName := ⟨RX7, "begin", "(IIII)V"⟩
abbrev cX7_finish : ByteArray := prog_9_method_24_code
def yX7_finish : MethodName := ⟨RX7, "finish", "(I)V"⟩
abbrev cX7_hear : ByteArray := prog_9_method_25_code
def yX7_hear : MethodName := ⟨RX7, "hear", "(IZ)V"⟩
abbrev cX7_hearSearch : ByteArray := prog_9_method_26_code
def yX7_hearSearch : MethodName := ⟨RX7, "hearSearch", "(IZ)V"⟩
abbrev cX7_show : ByteArray := prog_9_method_27_code
def yX7_show : MethodName := ⟨RX7, "show", "(J)V"⟩
abbrev cX7_refuse : ByteArray := prog_9_method_28_code
def yX7_refuse : MethodName := ⟨RX7, "refuse", "(IZI)V"⟩
abbrev cX7_isMatter : ByteArray := prog_9_method_29_code
def yX7_isMatter : MethodName := ⟨RX7, "isMatter", "(I)Z"⟩
abbrev cX7_get : ByteArray := prog_9_method_30_code
def yX7_get : MethodName := ⟨RX7, "get", "(I)V"⟩
abbrev cX7_tell : ByteArray := prog_9_method_31_code
def yX7_tell : MethodName := ⟨RX7, "tell", "(II)V"⟩
abbrev cX7_getWaiting : ByteArray := prog_9_method_32_code
def yX7_getWaiting : MethodName := ⟨RX7, "getWaiting", "(I)V"⟩
abbrev cX7_set : ByteArray := prog_9_method_33_code
def yX7_set : MethodName := ⟨RX7, "set", "(IZ)V"⟩
abbrev cX7_mayBe : ByteArray := prog_9_method_34_code
def yX7_mayBe : MethodName := ⟨RX7, "mayBe", "(III)Z"⟩
abbrev cX7_setLabel : ByteArray := prog_9_method_35_code
def yX7_setLabel : MethodName := ⟨RX7, "setLabel", "(IZI)V"⟩
abbrev cX7_send : ByteArray := prog_9_method_36_code
def yX7_send : MethodName := ⟨RX7, "send", "()I"⟩
abbrev cX7_answer : ByteArray := prog_9_method_37_code
def yX7_answer : MethodName := ⟨RX7, "answer", "(I)I"⟩
abbrev cX7_write : ByteArray := prog_9_method_38_code
def yX7_write : MethodName := ⟨RX7, "write", "(I)V"⟩
abbrev cX7_writeSix : ByteArray := prog_9_method_39_code
def yX7_writeSix : MethodName := ⟨RX7, "writeSix", "(J)V"⟩
abbrev cX7_beginPacket : ByteArray := prog_9_method_40_code
def yX7_beginPacket : MethodName := ⟨RX7, "beginPacket", "(JIII)V"⟩
abbrev cX7_sendOff : ByteArray := prog_9_method_41_code
def yX7_sendOff : MethodName := ⟨RX7, "sendOff", "()V"⟩
abbrev cX7_heard : ByteArray := prog_9_method_42_code
def yX7_heard : MethodName := ⟨RX7, "heard", "(I)I"⟩
abbrev cX7_heardSix : ByteArray := prog_9_method_43_code
def yX7_heardSix : MethodName := ⟨RX7, "heardSix", "(I)J"⟩
abbrev cX7_isReply : ByteArray := prog_9_method_44_code
def yX7_isReply : MethodName := ⟨RX7, "isReply", "(J)Z"⟩
abbrev cX7_ask : ByteArray := prog_9_method_45_code
def yX7_ask : MethodName := ⟨RX7, "ask", "(IJIII)I"⟩
abbrev cX7_spoil : ByteArray := prog_9_method_46_code
def yX7_spoil : MethodName := ⟨RX7, "spoil", "(II)V"⟩
abbrev cX7_frames : ByteArray := prog_9_method_47_code
def yX7_frames : MethodName := ⟨RX7, "frames", "()I"⟩
abbrev cX7_isLamp : ByteArray := prog_9_method_48_code
def yX7_isLamp : MethodName := ⟨RX7, "isLamp", "(I)Z"⟩
abbrev cX7_about : ByteArray := prog_9_method_49_code
def yX7_about : MethodName := ⟨RX7, "about", "(II)I"⟩
abbrev cX7_rest : ByteArray := prog_9_method_50_code
def yX7_rest : MethodName := ⟨RX7, "rest", "(I)J"⟩
abbrev cX7_level : ByteArray := prog_9_method_51_code
def yX7_level : MethodName := ⟨RX7, "level", "(II)I"⟩
abbrev cX7_label : ByteArray := prog_9_method_52_code
def yX7_label : MethodName := ⟨RX7, "label", "(II)I"⟩
abbrev cX7_silence : ByteArray := prog_9_method_53_code
def yX7_silence : MethodName := ⟨RX7, "silence", "(IZ)I"⟩
abbrev cX7_search : ByteArray := prog_9_method_54_code
def yX7_search : MethodName := ⟨RX7, "search", "()I"⟩
abbrev cX7_push : ByteArray := prog_9_method_55_code
def yX7_push : MethodName := ⟨RX7, "push", "(JJ)V"⟩
abbrev cX7_isFound : ByteArray := prog_9_method_56_code
def yX7_isFound : MethodName := ⟨RX7, "isFound", "(J)Z"⟩
abbrev cX7_tried : ByteArray := prog_9_method_57_code
def yX7_tried : MethodName := ⟨RX7, "tried", "(J)I"⟩
abbrev cX7_shown : ByteArray := prog_9_method_58_code
def yX7_shown : MethodName := ⟨RX7, "shown", "()J"⟩
abbrev cX7_isId : ByteArray := prog_9_method_59_code
def yX7_isId : MethodName := ⟨RX7, "isId", "(J)Z"⟩
abbrev cX7_stepOnce : ByteArray := prog_9_method_60_code
def yX7_stepOnce : MethodName := ⟨RX7, "stepOnce", "()V"⟩
abbrev cX7_step : ByteArray := prog_9_method_61_code
def yX7_step : MethodName := ⟨RX7, "step", "(I)I"⟩
abbrev cX7_found : ByteArray := prog_9_method_62_code
def yX7_found : MethodName := ⟨RX7, "found", "()I"⟩
abbrev cX7_id : ByteArray := prog_9_method_63_code
def yX7_id : MethodName := ⟨RX7, "id", "(I)J"⟩
abbrev cX7_branch : ByteArray := prog_9_method_64_code
def yX7_branch : MethodName := ⟨RX7, "branch", "(I)J"⟩
def RJ9 : String := "java/lang/Math"
def TJ9 : u_T := fun k => match k with
  | _ => ("", "", "", false)
def tyJ9 : Nat → FieldType := fun k => match k with
  | _ => .int
abbrev wsJ90 : List Cond := u_ws RJ9 TJ9 0
theorem nmJ9 : ∀ a, a < 0 → ∀ b, b < 0 → a ≠ b → (TJ9 a).2.1 ≠ (TJ9 b).2.1 := by decide +kernel
theorem tyJ9_ok : ∀ k, k < 0 → parseFieldDescriptor (TJ9 k).2.2.1 = some (tyJ9 k) := by decide +kernel
abbrev cJ9_min_7cf53 : ByteArray := prog_14_method_69_code
def yJ9_min_7cf53 : MethodName := ⟨RJ9, "min", "(II)I"⟩
def RJ0 : String := "java/lang/String"
def TJ0 : u_T := fun k => match k with
  | _ => ("", "", "", false)
def tyJ0 : Nat → FieldType := fun k => match k with
  | _ => .int
abbrev wsJ00 : List Cond := u_ws RJ0 TJ0 0
theorem nmJ0 : ∀ a, a < 0 → ∀ b, b < 0 → a ≠ b → (TJ0 a).2.1 ≠ (TJ0 b).2.1 := by decide +kernel
theorem tyJ0_ok : ∀ k, k < 0 → parseFieldDescriptor (TJ0 k).2.2.1 = some (tyJ0 k) := by decide +kernel
def RL : String := "LampLineLaw"
abbrev cL_lamp : ByteArray := method_3_code
def yL_lamp : MethodName := ⟨RL, "lamp", "(LLampLine;IJIII[J)I"⟩
abbrev cL_feed : ByteArray := method_4_code
def yL_feed : MethodName := ⟨RL, "feed", "(LLampLine;IIIII[J)I"⟩
abbrev cL_end : ByteArray := method_5_code
def yL_end : MethodName := ⟨RL, "end", "(LLampLine;I)I"⟩
abbrev cL_answer : ByteArray := method_6_code
def yL_answer : MethodName := ⟨RL, "answer", "(LLampLine;I[J)I"⟩
abbrev cL_ask : ByteArray := method_7_code
def yL_ask : MethodName := ⟨RL, "ask", "(LLampLine;IJIII[J)I"⟩
abbrev cL_spoil : ByteArray := method_8_code
def yL_spoil : MethodName := ⟨RL, "spoil", "(LLampLine;II)I"⟩
abbrev cL_about : ByteArray := method_9_code
def yL_about : MethodName := ⟨RL, "about", "(LLampLine;II[J)I"⟩
abbrev cL_rest : ByteArray := method_10_code
def yL_rest : MethodName := ⟨RL, "rest", "(LLampLine;I[J)I"⟩
abbrev cL_level : ByteArray := method_11_code
def yL_level : MethodName := ⟨RL, "level", "(LLampLine;II[J)I"⟩
abbrev cL_label : ByteArray := method_12_code
def yL_label : MethodName := ⟨RL, "label", "(LLampLine;II[J)I"⟩
abbrev cL_silence : ByteArray := method_13_code
def yL_silence : MethodName := ⟨RL, "silence", "(LLampLine;IZ[J)I"⟩
abbrev cL_step : ByteArray := method_14_code
def yL_step : MethodName := ⟨RL, "step", "(LLampLine;I[J)I"⟩
abbrev cL_id : ByteArray := method_15_code
def yL_id : MethodName := ⟨RL, "id", "(LLampLine;I[J)I"⟩
abbrev cL_branch : ByteArray := method_16_code
def yL_branch : MethodName := ⟨RL, "branch", "(LLampLine;I[J)I"⟩
abbrev cL_law : ByteArray := code
def yL_law : MethodName := ⟨RL, "law", "([I)Z"⟩
abbrev vwCl : List vw_C := [(RX1, TX1, 15), (RX2, TX2, 9), (RX3, TX3, 2), (RX4, TX4, 7), (RX5, TX5, 3), (RX6, TX6, 13), (RX7, TX7, 39)]
end
section
theorem dX0_write_0 : decode cX0_write 0 = .ok (.aload_n 2, 1) := by decide +kernel
theorem dX0_write_1 : decode cX0_write 1 = .ok (.iconst 0, 1) := by decide +kernel
theorem dX0_write_2 : decode cX0_write 2 = .ok (.invokevirtual 9, 3) := by decide +kernel
theorem dX0_write_5 : decode cX0_write 5 = .ok (.iconst 0, 1) := by decide +kernel
theorem dX0_write_6 : decode cX0_write 6 = .ok (.istore_n 3, 1) := by decide +kernel
theorem dX0_write_7 : decode cX0_write 7 = .ok (.iload_n 3, 1) := by decide +kernel
theorem dX0_write_8 : decode cX0_write 8 = .ok (.bipush 7, 2) := by decide +kernel
theorem dX0_write_10 : decode cX0_write 10 = .ok (.if_icmp .ge 16, 3) := by decide +kernel
theorem dX0_write_13 : decode cX0_write 13 = .ok (.aload_n 2, 1) := by decide +kernel
theorem dX0_write_14 : decode cX0_write 14 = .ok (.sipush 254, 3) := by decide +kernel
theorem dX0_write_17 : decode cX0_write 17 = .ok (.invokevirtual 17, 3) := by decide +kernel
theorem dX0_write_20 : decode cX0_write 20 = .ok (.iinc 3 1, 3) := by decide +kernel
theorem dX0_write_23 : decode cX0_write 23 = .ok (.goto (-16), 3) := by decide +kernel
theorem dX0_write_26 : decode cX0_write 26 = .ok (.aload_n 2, 1) := by decide +kernel
theorem dX0_write_27 : decode cX0_write 27 = .ok (.sipush 170, 3) := by decide +kernel
theorem dX0_write_30 : decode cX0_write 30 = .ok (.invokevirtual 17, 3) := by decide +kernel
theorem dX0_write_33 : decode cX0_write 33 = .ok (.bipush 40, 2) := by decide +kernel
theorem dX0_write_35 : decode cX0_write 35 = .ok (.istore_n 3, 1) := by decide +kernel
theorem dX0_write_36 : decode cX0_write 36 = .ok (.iload_n 3, 1) := by decide +kernel
theorem dX0_write_37 : decode cX0_write 37 = .ok (.ifCond .lt 38, 3) := by decide +kernel
theorem dX0_write_40 : decode cX0_write 40 = .ok (.lload_n 0, 1) := by decide +kernel
theorem dX0_write_41 : decode cX0_write 41 = .ok (.iload_n 3, 1) := by decide +kernel
theorem dX0_write_42 : decode cX0_write 42 = .ok (.lushr, 1) := by decide +kernel
theorem dX0_write_43 : decode cX0_write 43 = .ok (.l2i, 1) := by decide +kernel
theorem dX0_write_44 : decode cX0_write 44 = .ok (.sipush 255, 3) := by decide +kernel
theorem dX0_write_47 : decode cX0_write 47 = .ok (.iand, 1) := by decide +kernel
theorem dX0_write_48 : decode cX0_write 48 = .ok (.istore 4, 2) := by decide +kernel
theorem dX0_write_50 : decode cX0_write 50 = .ok (.aload_n 2, 1) := by decide +kernel
theorem dX0_write_51 : decode cX0_write 51 = .ok (.iload 4, 2) := by decide +kernel
theorem dX0_write_53 : decode cX0_write 53 = .ok (.sipush 170, 3) := by decide +kernel
theorem dX0_write_56 : decode cX0_write 56 = .ok (.ior, 1) := by decide +kernel
theorem dX0_write_57 : decode cX0_write 57 = .ok (.invokevirtual 17, 3) := by decide +kernel
theorem dX0_write_60 : decode cX0_write 60 = .ok (.aload_n 2, 1) := by decide +kernel
theorem dX0_write_61 : decode cX0_write 61 = .ok (.iload 4, 2) := by decide +kernel
theorem dX0_write_63 : decode cX0_write 63 = .ok (.bipush 85, 2) := by decide +kernel
theorem dX0_write_65 : decode cX0_write 65 = .ok (.ior, 1) := by decide +kernel
theorem dX0_write_66 : decode cX0_write 66 = .ok (.invokevirtual 17, 3) := by decide +kernel
theorem dX0_write_69 : decode cX0_write 69 = .ok (.iinc 3 (-8), 3) := by decide +kernel
theorem dX0_write_72 : decode cX0_write 72 = .ok (.goto (-36), 3) := by decide +kernel
theorem dX0_write_75 : decode cX0_write 75 = .ok (.aload_n 2, 1) := by decide +kernel
theorem dX0_write_76 : decode cX0_write 76 = .ok (.bipush 8, 2) := by decide +kernel
theorem dX0_write_78 : decode cX0_write 78 = .ok (.bipush 20, 2) := by decide +kernel
theorem dX0_write_80 : decode cX0_write 80 = .ok (.invokevirtual 20, 3) := by decide +kernel
theorem dX0_write_83 : decode cX0_write 83 = .ok (.istore_n 3, 1) := by decide +kernel
theorem dX0_write_84 : decode cX0_write 84 = .ok (.aload_n 2, 1) := by decide +kernel
theorem dX0_write_85 : decode cX0_write 85 = .ok (.iload_n 3, 1) := by decide +kernel
theorem dX0_write_86 : decode cX0_write 86 = .ok (.bipush 8, 2) := by decide +kernel
theorem dX0_write_88 : decode cX0_write 88 = .ok (.iushr, 1) := by decide +kernel
theorem dX0_write_89 : decode cX0_write 89 = .ok (.sipush 170, 3) := by decide +kernel
theorem dX0_write_92 : decode cX0_write 92 = .ok (.ior, 1) := by decide +kernel
theorem dX0_write_93 : decode cX0_write 93 = .ok (.invokevirtual 17, 3) := by decide +kernel
theorem dX0_write_96 : decode cX0_write 96 = .ok (.aload_n 2, 1) := by decide +kernel
theorem dX0_write_97 : decode cX0_write 97 = .ok (.iload_n 3, 1) := by decide +kernel
theorem dX0_write_98 : decode cX0_write 98 = .ok (.bipush 8, 2) := by decide +kernel
theorem dX0_write_100 : decode cX0_write 100 = .ok (.iushr, 1) := by decide +kernel
theorem dX0_write_101 : decode cX0_write 101 = .ok (.bipush 85, 2) := by decide +kernel
theorem dX0_write_103 : decode cX0_write 103 = .ok (.ior, 1) := by decide +kernel
theorem dX0_write_104 : decode cX0_write 104 = .ok (.invokevirtual 17, 3) := by decide +kernel
theorem dX0_write_107 : decode cX0_write 107 = .ok (.aload_n 2, 1) := by decide +kernel
theorem dX0_write_108 : decode cX0_write 108 = .ok (.iload_n 3, 1) := by decide +kernel
theorem dX0_write_109 : decode cX0_write 109 = .ok (.sipush 170, 3) := by decide +kernel
theorem dX0_write_112 : decode cX0_write 112 = .ok (.ior, 1) := by decide +kernel
theorem dX0_write_113 : decode cX0_write 113 = .ok (.invokevirtual 17, 3) := by decide +kernel
theorem dX0_write_116 : decode cX0_write 116 = .ok (.aload_n 2, 1) := by decide +kernel
theorem dX0_write_117 : decode cX0_write 117 = .ok (.iload_n 3, 1) := by decide +kernel
theorem dX0_write_118 : decode cX0_write 118 = .ok (.bipush 85, 2) := by decide +kernel
theorem dX0_write_120 : decode cX0_write 120 = .ok (.ior, 1) := by decide +kernel
theorem dX0_write_121 : decode cX0_write 121 = .ok (.invokevirtual 17, 3) := by decide +kernel
theorem dX0_write_124 : decode cX0_write 124 = .ok (.return_, 1) := by decide +kernel
theorem dX0_read_0 : decode cX0_read 0 = .ok (.aload_n 0, 1) := by decide +kernel
theorem dX0_read_1 : decode cX0_read 1 = .ok (.invokevirtual 24, 3) := by decide +kernel
theorem dX0_read_4 : decode cX0_read 4 = .ok (.bipush 24, 2) := by decide +kernel
theorem dX0_read_6 : decode cX0_read 6 = .ok (.if_icmp .eq 7, 3) := by decide +kernel
theorem dX0_read_9 : decode cX0_read 9 = .ok (.ldc2_w 28, 3) := by decide +kernel
theorem dX0_read_12 : decode cX0_read 12 = .ok (.lreturn, 1) := by decide +kernel
theorem dX0_read_13 : decode cX0_read 13 = .ok (.iconst 0, 1) := by decide +kernel
theorem dX0_read_14 : decode cX0_read 14 = .ok (.istore_n 1, 1) := by decide +kernel
theorem dX0_read_15 : decode cX0_read 15 = .ok (.iload_n 1, 1) := by decide +kernel
theorem dX0_read_16 : decode cX0_read 16 = .ok (.bipush 8, 2) := by decide +kernel
theorem dX0_read_18 : decode cX0_read 18 = .ok (.if_icmp .ge 36, 3) := by decide +kernel
theorem dX0_read_21 : decode cX0_read 21 = .ok (.aload_n 0, 1) := by decide +kernel
theorem dX0_read_22 : decode cX0_read 22 = .ok (.iload_n 1, 1) := by decide +kernel
theorem dX0_read_23 : decode cX0_read 23 = .ok (.invokevirtual 30, 3) := by decide +kernel
theorem dX0_read_26 : decode cX0_read 26 = .ok (.iload_n 1, 1) := by decide +kernel
theorem dX0_read_27 : decode cX0_read 27 = .ok (.bipush 7, 2) := by decide +kernel
theorem dX0_read_29 : decode cX0_read 29 = .ok (.if_icmp .ge 9, 3) := by decide +kernel
theorem dX0_read_32 : decode cX0_read 32 = .ok (.sipush 254, 3) := by decide +kernel
theorem dX0_read_35 : decode cX0_read 35 = .ok (.goto 6, 3) := by decide +kernel
theorem dX0_read_38 : decode cX0_read 38 = .ok (.sipush 170, 3) := by decide +kernel
theorem dX0_read_41 : decode cX0_read 41 = .ok (.if_icmp .eq 7, 3) := by decide +kernel
theorem dX0_read_44 : decode cX0_read 44 = .ok (.ldc2_w 28, 3) := by decide +kernel
theorem dX0_read_47 : decode cX0_read 47 = .ok (.lreturn, 1) := by decide +kernel
theorem dX0_read_48 : decode cX0_read 48 = .ok (.iinc 1 1, 3) := by decide +kernel
theorem dX0_read_51 : decode cX0_read 51 = .ok (.goto (-36), 3) := by decide +kernel
theorem dX0_read_54 : decode cX0_read 54 = .ok (.lconst 0, 1) := by decide +kernel
theorem dX0_read_55 : decode cX0_read 55 = .ok (.lstore_n 1, 1) := by decide +kernel
theorem dX0_read_56 : decode cX0_read 56 = .ok (.bipush 8, 2) := by decide +kernel
theorem dX0_read_58 : decode cX0_read 58 = .ok (.istore_n 3, 1) := by decide +kernel
theorem dX0_read_59 : decode cX0_read 59 = .ok (.iload_n 3, 1) := by decide +kernel
theorem dX0_read_60 : decode cX0_read 60 = .ok (.bipush 24, 2) := by decide +kernel
theorem dX0_read_62 : decode cX0_read 62 = .ok (.if_icmp .ge 63, 3) := by decide +kernel
theorem dX0_read_65 : decode cX0_read 65 = .ok (.aload_n 0, 1) := by decide +kernel
theorem dX0_read_66 : decode cX0_read 66 = .ok (.iload_n 3, 1) := by decide +kernel
theorem dX0_read_67 : decode cX0_read 67 = .ok (.invokevirtual 30, 3) := by decide +kernel
theorem dX0_read_70 : decode cX0_read 70 = .ok (.istore 4, 2) := by decide +kernel
theorem dX0_read_72 : decode cX0_read 72 = .ok (.aload_n 0, 1) := by decide +kernel
theorem dX0_read_73 : decode cX0_read 73 = .ok (.iload_n 3, 1) := by decide +kernel
theorem dX0_read_74 : decode cX0_read 74 = .ok (.iconst 1, 1) := by decide +kernel
theorem dX0_read_75 : decode cX0_read 75 = .ok (.iadd, 1) := by decide +kernel
theorem dX0_read_76 : decode cX0_read 76 = .ok (.invokevirtual 30, 3) := by decide +kernel
theorem dX0_read_79 : decode cX0_read 79 = .ok (.istore 5, 2) := by decide +kernel
theorem dX0_read_81 : decode cX0_read 81 = .ok (.iload 4, 2) := by decide +kernel
theorem dX0_read_83 : decode cX0_read 83 = .ok (.sipush 170, 3) := by decide +kernel
theorem dX0_read_86 : decode cX0_read 86 = .ok (.iand, 1) := by decide +kernel
theorem dX0_read_87 : decode cX0_read 87 = .ok (.sipush 170, 3) := by decide +kernel
theorem dX0_read_90 : decode cX0_read 90 = .ok (.if_icmp .ne 13, 3) := by decide +kernel
theorem dX0_read_93 : decode cX0_read 93 = .ok (.iload 5, 2) := by decide +kernel
theorem dX0_read_95 : decode cX0_read 95 = .ok (.bipush 85, 2) := by decide +kernel
theorem dX0_read_97 : decode cX0_read 97 = .ok (.iand, 1) := by decide +kernel
theorem dX0_read_98 : decode cX0_read 98 = .ok (.bipush 85, 2) := by decide +kernel
theorem dX0_read_100 : decode cX0_read 100 = .ok (.if_icmp .eq 7, 3) := by decide +kernel
theorem dX0_read_103 : decode cX0_read 103 = .ok (.ldc2_w 28, 3) := by decide +kernel
theorem dX0_read_106 : decode cX0_read 106 = .ok (.lreturn, 1) := by decide +kernel
theorem dX0_read_107 : decode cX0_read 107 = .ok (.lload_n 1, 1) := by decide +kernel
theorem dX0_read_108 : decode cX0_read 108 = .ok (.bipush 8, 2) := by decide +kernel
theorem dX0_read_110 : decode cX0_read 110 = .ok (.lshl, 1) := by decide +kernel
theorem dX0_read_111 : decode cX0_read 111 = .ok (.iload 4, 2) := by decide +kernel
theorem dX0_read_113 : decode cX0_read 113 = .ok (.iload 5, 2) := by decide +kernel
theorem dX0_read_115 : decode cX0_read 115 = .ok (.iand, 1) := by decide +kernel
theorem dX0_read_116 : decode cX0_read 116 = .ok (.i2l, 1) := by decide +kernel
theorem dX0_read_117 : decode cX0_read 117 = .ok (.lor, 1) := by decide +kernel
theorem dX0_read_118 : decode cX0_read 118 = .ok (.lstore_n 1, 1) := by decide +kernel
theorem dX0_read_119 : decode cX0_read 119 = .ok (.iinc 3 2, 3) := by decide +kernel
theorem dX0_read_122 : decode cX0_read 122 = .ok (.goto (-63), 3) := by decide +kernel
theorem dX0_read_125 : decode cX0_read 125 = .ok (.lload_n 1, 1) := by decide +kernel
theorem dX0_read_126 : decode cX0_read 126 = .ok (.ldc2_w 34, 3) := by decide +kernel
theorem dX0_read_129 : decode cX0_read 129 = .ok (.land, 1) := by decide +kernel
theorem dX0_read_130 : decode cX0_read 130 = .ok (.aload_n 0, 1) := by decide +kernel
theorem dX0_read_131 : decode cX0_read 131 = .ok (.bipush 8, 2) := by decide +kernel
theorem dX0_read_133 : decode cX0_read 133 = .ok (.bipush 20, 2) := by decide +kernel
theorem dX0_read_135 : decode cX0_read 135 = .ok (.invokevirtual 20, 3) := by decide +kernel
theorem dX0_read_138 : decode cX0_read 138 = .ok (.i2l, 1) := by decide +kernel
theorem dX0_read_139 : decode cX0_read 139 = .ok (.lcmp, 1) := by decide +kernel
theorem dX0_read_140 : decode cX0_read 140 = .ok (.ifCond .ne 10, 3) := by decide +kernel
theorem dX0_read_143 : decode cX0_read 143 = .ok (.lload_n 1, 1) := by decide +kernel
theorem dX0_read_144 : decode cX0_read 144 = .ok (.bipush 16, 2) := by decide +kernel
theorem dX0_read_146 : decode cX0_read 146 = .ok (.lushr, 1) := by decide +kernel
theorem dX0_read_147 : decode cX0_read 147 = .ok (.goto 6, 3) := by decide +kernel
theorem dX0_read_150 : decode cX0_read 150 = .ok (.ldc2_w 28, 3) := by decide +kernel
theorem dX0_read_153 : decode cX0_read 153 = .ok (.lreturn, 1) := by decide +kernel
theorem dX1_init_0 : decode cX1_init 0 = .ok (.aload_n 0, 1) := by decide +kernel
theorem dX1_init_1 : decode cX1_init 1 = .ok (.invokespecial 3, 3) := by decide +kernel
theorem dX1_init_4 : decode cX1_init 4 = .ok (.aload_n 0, 1) := by decide +kernel
theorem dX1_init_5 : decode cX1_init 5 = .ok (.sipush 512, 3) := by decide +kernel
theorem dX1_init_8 : decode cX1_init 8 = .ok (.newarray .int, 2) := by decide +kernel
theorem dX1_init_10 : decode cX1_init 10 = .ok (.putfield 9, 3) := by decide +kernel
theorem dX1_init_13 : decode cX1_init 13 = .ok (.aload_n 0, 1) := by decide +kernel
theorem dX1_init_14 : decode cX1_init 14 = .ok (.new 15, 3) := by decide +kernel
theorem dX1_init_17 : decode cX1_init 17 = .ok (.dup, 1) := by decide +kernel
theorem dX1_init_18 : decode cX1_init 18 = .ok (.bipush 32, 2) := by decide +kernel
theorem dX1_init_20 : decode cX1_init 20 = .ok (.invokespecial 17, 3) := by decide +kernel
theorem dX1_init_23 : decode cX1_init 23 = .ok (.putfield 20, 3) := by decide +kernel
theorem dX1_init_26 : decode cX1_init 26 = .ok (.aload_n 0, 1) := by decide +kernel
theorem dX1_init_27 : decode cX1_init 27 = .ok (.iconst 3, 1) := by decide +kernel
theorem dX1_init_28 : decode cX1_init 28 = .ok (.anewarray 15, 3) := by decide +kernel
theorem dX1_init_31 : decode cX1_init 31 = .ok (.putfield 24, 3) := by decide +kernel
theorem dX1_init_34 : decode cX1_init 34 = .ok (.aload_n 0, 1) := by decide +kernel
theorem dX1_init_35 : decode cX1_init 35 = .ok (.iconst 3, 1) := by decide +kernel
theorem dX1_init_36 : decode cX1_init 36 = .ok (.newarray .boolean, 2) := by decide +kernel
theorem dX1_init_38 : decode cX1_init 38 = .ok (.putfield 28, 3) := by decide +kernel
theorem dX1_init_41 : decode cX1_init 41 = .ok (.aload_n 0, 1) := by decide +kernel
theorem dX1_init_42 : decode cX1_init 42 = .ok (.iconst 1, 1) := by decide +kernel
theorem dX1_init_43 : decode cX1_init 43 = .ok (.putfield 32, 3) := by decide +kernel
theorem dX1_init_46 : decode cX1_init 46 = .ok (.aload_n 0, 1) := by decide +kernel
theorem dX1_init_47 : decode cX1_init 47 = .ok (.lload_n 1, 1) := by decide +kernel
theorem dX1_init_48 : decode cX1_init 48 = .ok (.putfield 36, 3) := by decide +kernel
theorem dX1_init_51 : decode cX1_init 51 = .ok (.aload_n 0, 1) := by decide +kernel
theorem dX1_init_52 : decode cX1_init 52 = .ok (.iload_n 3, 1) := by decide +kernel
theorem dX1_init_53 : decode cX1_init 53 = .ok (.putfield 40, 3) := by decide +kernel
theorem dX1_init_56 : decode cX1_init 56 = .ok (.aload_n 0, 1) := by decide +kernel
theorem dX1_init_57 : decode cX1_init 57 = .ok (.iload 4, 2) := by decide +kernel
theorem dX1_init_59 : decode cX1_init 59 = .ok (.putfield 43, 3) := by decide +kernel
theorem dX1_init_62 : decode cX1_init 62 = .ok (.aload_n 0, 1) := by decide +kernel
theorem dX1_init_63 : decode cX1_init 63 = .ok (.iload 5, 2) := by decide +kernel
theorem dX1_init_65 : decode cX1_init 65 = .ok (.putfield 46, 3) := by decide +kernel
theorem dX1_init_68 : decode cX1_init 68 = .ok (.iconst 0, 1) := by decide +kernel
theorem dX1_init_69 : decode cX1_init 69 = .ok (.istore 6, 2) := by decide +kernel
theorem dX1_init_71 : decode cX1_init 71 = .ok (.iload 6, 2) := by decide +kernel
theorem dX1_init_73 : decode cX1_init 73 = .ok (.iconst 3, 1) := by decide +kernel
theorem dX1_init_74 : decode cX1_init 74 = .ok (.if_icmp .ge 25, 3) := by decide +kernel
theorem dX1_init_77 : decode cX1_init 77 = .ok (.aload_n 0, 1) := by decide +kernel
theorem dX1_init_78 : decode cX1_init 78 = .ok (.getfield 24, 3) := by decide +kernel
theorem dX1_init_81 : decode cX1_init 81 = .ok (.iload 6, 2) := by decide +kernel
theorem dX1_init_83 : decode cX1_init 83 = .ok (.new 15, 3) := by decide +kernel
theorem dX1_init_86 : decode cX1_init 86 = .ok (.dup, 1) := by decide +kernel
theorem dX1_init_87 : decode cX1_init 87 = .ok (.bipush 32, 2) := by decide +kernel
theorem dX1_init_89 : decode cX1_init 89 = .ok (.invokespecial 17, 3) := by decide +kernel
theorem dX1_init_92 : decode cX1_init 92 = .ok (.aastore, 1) := by decide +kernel
theorem dX1_init_93 : decode cX1_init 93 = .ok (.iinc 6 1, 3) := by decide +kernel
theorem dX1_init_96 : decode cX1_init 96 = .ok (.goto (-25), 3) := by decide +kernel
theorem dX1_init_99 : decode cX1_init 99 = .ok (.return_, 1) := by decide +kernel
theorem dX1_footprint_0 : decode cX1_footprint 0 = .ok (.aload_n 0, 1) := by decide +kernel
theorem dX1_footprint_1 : decode cX1_footprint 1 = .ok (.getfield 40, 3) := by decide +kernel
theorem dX1_footprint_4 : decode cX1_footprint 4 = .ok (.aload_n 0, 1) := by decide +kernel
theorem dX1_footprint_5 : decode cX1_footprint 5 = .ok (.getfield 32, 3) := by decide +kernel
theorem dX1_footprint_8 : decode cX1_footprint 8 = .ok (.imul, 1) := by decide +kernel
theorem dX1_footprint_9 : decode cX1_footprint 9 = .ok (.ireturn, 1) := by decide +kernel
theorem dX1_levelAt_0 : decode cX1_levelAt 0 = .ok (.iload_n 1, 1) := by decide +kernel
theorem dX1_levelAt_1 : decode cX1_levelAt 1 = .ok (.ifCond .lt 19, 3) := by decide +kernel
theorem dX1_levelAt_4 : decode cX1_levelAt 4 = .ok (.iload_n 1, 1) := by decide +kernel
theorem dX1_levelAt_5 : decode cX1_levelAt 5 = .ok (.sipush 512, 3) := by decide +kernel
theorem dX1_levelAt_8 : decode cX1_levelAt 8 = .ok (.if_icmp .ge 12, 3) := by decide +kernel
theorem dX1_levelAt_11 : decode cX1_levelAt 11 = .ok (.aload_n 0, 1) := by decide +kernel
theorem dX1_levelAt_12 : decode cX1_levelAt 12 = .ok (.getfield 9, 3) := by decide +kernel
theorem dX1_levelAt_15 : decode cX1_levelAt 15 = .ok (.iload_n 1, 1) := by decide +kernel
theorem dX1_levelAt_16 : decode cX1_levelAt 16 = .ok (.iaload, 1) := by decide +kernel
theorem dX1_levelAt_17 : decode cX1_levelAt 17 = .ok (.goto 4, 3) := by decide +kernel
theorem dX1_levelAt_20 : decode cX1_levelAt 20 = .ok (.iconst 0, 1) := by decide +kernel
theorem dX1_levelAt_21 : decode cX1_levelAt 21 = .ok (.ireturn, 1) := by decide +kernel
theorem dX1_isDark_0 : decode cX1_isDark 0 = .ok (.aload_n 0, 1) := by decide +kernel
theorem dX1_isDark_1 : decode cX1_isDark 1 = .ok (.getfield 49, 3) := by decide +kernel
theorem dX1_isDark_4 : decode cX1_isDark 4 = .ok (.ifCond .eq 14, 3) := by decide +kernel
theorem dX1_isDark_7 : decode cX1_isDark 7 = .ok (.iload_n 1, 1) := by decide +kernel
theorem dX1_isDark_8 : decode cX1_isDark 8 = .ok (.aload_n 0, 1) := by decide +kernel
theorem dX1_isDark_9 : decode cX1_isDark 9 = .ok (.getfield 49, 3) := by decide +kernel
theorem dX1_isDark_12 : decode cX1_isDark 12 = .ok (.isub, 1) := by decide +kernel
theorem dX1_isDark_13 : decode cX1_isDark 13 = .ok (.bipush 20, 2) := by decide +kernel
theorem dX1_isDark_15 : decode cX1_isDark 15 = .ok (.if_icmp .lt 7, 3) := by decide +kernel
theorem dX1_isDark_18 : decode cX1_isDark 18 = .ok (.iconst 1, 1) := by decide +kernel
theorem dX1_isDark_19 : decode cX1_isDark 19 = .ok (.goto 4, 3) := by decide +kernel
theorem dX1_isDark_22 : decode cX1_isDark 22 = .ok (.iconst 0, 1) := by decide +kernel
theorem dX1_isDark_23 : decode cX1_isDark 23 = .ok (.ireturn, 1) := by decide +kernel
theorem dX1_fact_0 : decode cX1_fact 0 = .ok (.iload_n 1, 1) := by decide +kernel
theorem dX1_fact_1 : decode cX1_fact 1 = .ok (.tableswitch 130 0 10 #[59, 67, 72, 77, 82, 87, 95, 103, 112, 117, 125], 59) := by decide +kernel
theorem dX1_fact_60 : decode cX1_fact 60 = .ok (.aload_n 0, 1) := by decide +kernel
theorem dX1_fact_61 : decode cX1_fact 61 = .ok (.getfield 36, 3) := by decide +kernel
theorem dX1_fact_64 : decode cX1_fact 64 = .ok (.invokestatic 52, 3) := by decide +kernel
theorem dX1_fact_67 : decode cX1_fact 67 = .ok (.ireturn, 1) := by decide +kernel
theorem dX1_fact_68 : decode cX1_fact 68 = .ok (.aload_n 0, 1) := by decide +kernel
theorem dX1_fact_69 : decode cX1_fact 69 = .ok (.invokevirtual 56, 3) := by decide +kernel
theorem dX1_fact_72 : decode cX1_fact 72 = .ok (.ireturn, 1) := by decide +kernel
theorem dX1_fact_73 : decode cX1_fact 73 = .ok (.aload_n 0, 1) := by decide +kernel
theorem dX1_fact_74 : decode cX1_fact 74 = .ok (.getfield 32, 3) := by decide +kernel
theorem dX1_fact_77 : decode cX1_fact 77 = .ok (.ireturn, 1) := by decide +kernel
theorem dX1_fact_78 : decode cX1_fact 78 = .ok (.aload_n 0, 1) := by decide +kernel
theorem dX1_fact_79 : decode cX1_fact 79 = .ok (.getfield 43, 3) := by decide +kernel
theorem dX1_fact_82 : decode cX1_fact 82 = .ok (.ireturn, 1) := by decide +kernel
theorem dX1_fact_83 : decode cX1_fact 83 = .ok (.aload_n 0, 1) := by decide +kernel
theorem dX1_fact_84 : decode cX1_fact 84 = .ok (.getfield 46, 3) := by decide +kernel
theorem dX1_fact_87 : decode cX1_fact 87 = .ok (.ireturn, 1) := by decide +kernel
theorem dX1_fact_88 : decode cX1_fact 88 = .ok (.aload_n 0, 1) := by decide +kernel
theorem dX1_fact_89 : decode cX1_fact 89 = .ok (.getfield 60, 3) := by decide +kernel
theorem dX1_fact_92 : decode cX1_fact 92 = .ok (.invokestatic 64, 3) := by decide +kernel
theorem dX1_fact_95 : decode cX1_fact 95 = .ok (.ireturn, 1) := by decide +kernel
theorem dX1_fact_96 : decode cX1_fact 96 = .ok (.aload_n 0, 1) := by decide +kernel
theorem dX1_fact_97 : decode cX1_fact 97 = .ok (.getfield 68, 3) := by decide +kernel
theorem dX1_fact_100 : decode cX1_fact 100 = .ok (.invokestatic 64, 3) := by decide +kernel
theorem dX1_fact_103 : decode cX1_fact 103 = .ok (.ireturn, 1) := by decide +kernel
theorem dX1_fact_104 : decode cX1_fact 104 = .ok (.aload_n 0, 1) := by decide +kernel
theorem dX1_fact_105 : decode cX1_fact 105 = .ok (.iload_n 2, 1) := by decide +kernel
theorem dX1_fact_106 : decode cX1_fact 106 = .ok (.invokevirtual 71, 3) := by decide +kernel
theorem dX1_fact_109 : decode cX1_fact 109 = .ok (.invokestatic 64, 3) := by decide +kernel
theorem dX1_fact_112 : decode cX1_fact 112 = .ok (.ireturn, 1) := by decide +kernel
theorem dX1_fact_113 : decode cX1_fact 113 = .ok (.aload_n 0, 1) := by decide +kernel
theorem dX1_fact_114 : decode cX1_fact 114 = .ok (.getfield 75, 3) := by decide +kernel
theorem dX1_fact_117 : decode cX1_fact 117 = .ok (.ireturn, 1) := by decide +kernel
theorem dX1_fact_118 : decode cX1_fact 118 = .ok (.aload_n 0, 1) := by decide +kernel
theorem dX1_fact_119 : decode cX1_fact 119 = .ok (.getfield 20, 3) := by decide +kernel
theorem dX1_fact_122 : decode cX1_fact 122 = .ok (.invokevirtual 78, 3) := by decide +kernel
theorem dX1_fact_125 : decode cX1_fact 125 = .ok (.ireturn, 1) := by decide +kernel
theorem dX1_fact_126 : decode cX1_fact 126 = .ok (.aload_n 0, 1) := by decide +kernel
theorem dX1_fact_127 : decode cX1_fact 127 = .ok (.getfield 81, 3) := by decide +kernel
theorem dX1_fact_130 : decode cX1_fact 130 = .ok (.ireturn, 1) := by decide +kernel
theorem dX1_fact_131 : decode cX1_fact 131 = .ok (.iconst (-1), 1) := by decide +kernel
theorem dX1_fact_132 : decode cX1_fact 132 = .ok (.ireturn, 1) := by decide +kernel
theorem dX1_ripen_0 : decode cX1_ripen 0 = .ok (.iload_n 1, 1) := by decide +kernel
theorem dX1_ripen_1 : decode cX1_ripen 1 = .ok (.iconst 3, 1) := by decide +kernel
theorem dX1_ripen_2 : decode cX1_ripen 2 = .ok (.irem, 1) := by decide +kernel
theorem dX1_ripen_3 : decode cX1_ripen 3 = .ok (.istore_n 2, 1) := by decide +kernel
theorem dX1_ripen_4 : decode cX1_ripen 4 = .ok (.iload_n 2, 1) := by decide +kernel
theorem dX1_ripen_5 : decode cX1_ripen 5 = .ok (.ifCond .lt 52, 3) := by decide +kernel
theorem dX1_ripen_8 : decode cX1_ripen 8 = .ok (.aload_n 0, 1) := by decide +kernel
theorem dX1_ripen_9 : decode cX1_ripen 9 = .ok (.getfield 28, 3) := by decide +kernel
theorem dX1_ripen_12 : decode cX1_ripen 12 = .ok (.iload_n 2, 1) := by decide +kernel
theorem dX1_ripen_13 : decode cX1_ripen 13 = .ok (.baload, 1) := by decide +kernel
theorem dX1_ripen_14 : decode cX1_ripen 14 = .ok (.ifCond .eq 43, 3) := by decide +kernel
theorem dX1_ripen_17 : decode cX1_ripen 17 = .ok (.aload_n 0, 1) := by decide +kernel
theorem dX1_ripen_18 : decode cX1_ripen 18 = .ok (.getfield 28, 3) := by decide +kernel
theorem dX1_ripen_21 : decode cX1_ripen 21 = .ok (.iload_n 2, 1) := by decide +kernel
theorem dX1_ripen_22 : decode cX1_ripen 22 = .ok (.iconst 0, 1) := by decide +kernel
theorem dX1_ripen_23 : decode cX1_ripen 23 = .ok (.bastore, 1) := by decide +kernel
theorem dX1_ripen_24 : decode cX1_ripen 24 = .ok (.aload_n 0, 1) := by decide +kernel
theorem dX1_ripen_25 : decode cX1_ripen 25 = .ok (.getfield 20, 3) := by decide +kernel
theorem dX1_ripen_28 : decode cX1_ripen 28 = .ok (.aload_n 0, 1) := by decide +kernel
theorem dX1_ripen_29 : decode cX1_ripen 29 = .ok (.getfield 24, 3) := by decide +kernel
theorem dX1_ripen_32 : decode cX1_ripen 32 = .ok (.iload_n 2, 1) := by decide +kernel
theorem dX1_ripen_33 : decode cX1_ripen 33 = .ok (.aaload, 1) := by decide +kernel
theorem dX1_ripen_34 : decode cX1_ripen 34 = .ok (.invokevirtual 84, 3) := by decide +kernel
theorem dX1_ripen_37 : decode cX1_ripen 37 = .ok (.aload_n 0, 1) := by decide +kernel
theorem dX1_ripen_38 : decode cX1_ripen 38 = .ok (.dup, 1) := by decide +kernel
theorem dX1_ripen_39 : decode cX1_ripen 39 = .ok (.getfield 88, 3) := by decide +kernel
theorem dX1_ripen_42 : decode cX1_ripen 42 = .ok (.iconst 1, 1) := by decide +kernel
theorem dX1_ripen_43 : decode cX1_ripen 43 = .ok (.isub, 1) := by decide +kernel
theorem dX1_ripen_44 : decode cX1_ripen 44 = .ok (.putfield 88, 3) := by decide +kernel
theorem dX1_ripen_47 : decode cX1_ripen 47 = .ok (.aload_n 0, 1) := by decide +kernel
theorem dX1_ripen_48 : decode cX1_ripen 48 = .ok (.dup, 1) := by decide +kernel
theorem dX1_ripen_49 : decode cX1_ripen 49 = .ok (.getfield 75, 3) := by decide +kernel
theorem dX1_ripen_52 : decode cX1_ripen 52 = .ok (.iconst 1, 1) := by decide +kernel
theorem dX1_ripen_53 : decode cX1_ripen 53 = .ok (.iadd, 1) := by decide +kernel
theorem dX1_ripen_54 : decode cX1_ripen 54 = .ok (.putfield 75, 3) := by decide +kernel
theorem dX1_ripen_57 : decode cX1_ripen 57 = .ok (.return_, 1) := by decide +kernel
theorem dX1_shine_0 : decode cX1_shine 0 = .ok (.aload_n 0, 1) := by decide +kernel
theorem dX1_shine_1 : decode cX1_shine 1 = .ok (.getfield 46, 3) := by decide +kernel
theorem dX1_shine_4 : decode cX1_shine 4 = .ok (.aload_n 1, 1) := by decide +kernel
theorem dX1_shine_5 : decode cX1_shine 5 = .ok (.invokevirtual 78, 3) := by decide +kernel
theorem dX1_shine_8 : decode cX1_shine 8 = .ok (.if_icmp .ge 8, 3) := by decide +kernel
theorem dX1_shine_11 : decode cX1_shine 11 = .ok (.aload_n 0, 1) := by decide +kernel
theorem dX1_shine_12 : decode cX1_shine 12 = .ok (.iload_n 2, 1) := by decide +kernel
theorem dX1_shine_13 : decode cX1_shine 13 = .ok (.putfield 49, 3) := by decide +kernel
theorem dX1_shine_16 : decode cX1_shine 16 = .ok (.aload_n 0, 1) := by decide +kernel
theorem dX1_shine_17 : decode cX1_shine 17 = .ok (.invokevirtual 56, 3) := by decide +kernel
theorem dX1_shine_20 : decode cX1_shine 20 = .ok (.aload_n 1, 1) := by decide +kernel
theorem dX1_shine_21 : decode cX1_shine 21 = .ok (.invokevirtual 78, 3) := by decide +kernel
theorem dX1_shine_24 : decode cX1_shine 24 = .ok (.aload_n 0, 1) := by decide +kernel
theorem dX1_shine_25 : decode cX1_shine 25 = .ok (.getfield 46, 3) := by decide +kernel
theorem dX1_shine_28 : decode cX1_shine 28 = .ok (.isub, 1) := by decide +kernel
theorem dX1_shine_29 : decode cX1_shine 29 = .ok (.invokestatic 91, 3) := by decide +kernel
theorem dX1_shine_32 : decode cX1_shine 32 = .ok (.istore_n 3, 1) := by decide +kernel
theorem dX1_shine_33 : decode cX1_shine 33 = .ok (.iconst 0, 1) := by decide +kernel
theorem dX1_shine_34 : decode cX1_shine 34 = .ok (.istore 4, 2) := by decide +kernel
theorem dX1_shine_36 : decode cX1_shine 36 = .ok (.iload 4, 2) := by decide +kernel
theorem dX1_shine_38 : decode cX1_shine 38 = .ok (.iload_n 3, 1) := by decide +kernel
theorem dX1_shine_39 : decode cX1_shine 39 = .ok (.if_icmp .ge 35, 3) := by decide +kernel
theorem dX1_shine_42 : decode cX1_shine 42 = .ok (.iload 4, 2) := by decide +kernel
theorem dX1_shine_44 : decode cX1_shine 44 = .ok (.sipush 512, 3) := by decide +kernel
theorem dX1_shine_47 : decode cX1_shine 47 = .ok (.if_icmp .ge 27, 3) := by decide +kernel
theorem dX1_shine_50 : decode cX1_shine 50 = .ok (.aload_n 0, 1) := by decide +kernel
theorem dX1_shine_51 : decode cX1_shine 51 = .ok (.getfield 9, 3) := by decide +kernel
theorem dX1_shine_54 : decode cX1_shine 54 = .ok (.iload 4, 2) := by decide +kernel
theorem dX1_shine_56 : decode cX1_shine 56 = .ok (.aload_n 1, 1) := by decide +kernel
theorem dX1_shine_57 : decode cX1_shine 57 = .ok (.aload_n 0, 1) := by decide +kernel
theorem dX1_shine_58 : decode cX1_shine 58 = .ok (.getfield 46, 3) := by decide +kernel
theorem dX1_shine_61 : decode cX1_shine 61 = .ok (.iload 4, 2) := by decide +kernel
theorem dX1_shine_63 : decode cX1_shine 63 = .ok (.iadd, 1) := by decide +kernel
theorem dX1_shine_64 : decode cX1_shine 64 = .ok (.invokevirtual 97, 3) := by decide +kernel
theorem dX1_shine_67 : decode cX1_shine 67 = .ok (.iastore, 1) := by decide +kernel
theorem dX1_shine_68 : decode cX1_shine 68 = .ok (.iinc 4 1, 3) := by decide +kernel
theorem dX1_shine_71 : decode cX1_shine 71 = .ok (.goto (-35), 3) := by decide +kernel
theorem dX1_shine_74 : decode cX1_shine 74 = .ok (.return_, 1) := by decide +kernel
theorem dX1_isMeantBy_0 : decode cX1_isMeantBy 0 = .ok (.lload_n 1, 1) := by decide +kernel
theorem dX1_isMeantBy_1 : decode cX1_isMeantBy 1 = .ok (.invokestatic 101, 3) := by decide +kernel
theorem dX1_isMeantBy_4 : decode cX1_isMeantBy 4 = .ok (.ldc2_w 105, 3) := by decide +kernel
theorem dX1_isMeantBy_7 : decode cX1_isMeantBy 7 = .ok (.lcmp, 1) := by decide +kernel
theorem dX1_isMeantBy_8 : decode cX1_isMeantBy 8 = .ok (.ifCond .eq 18, 3) := by decide +kernel
theorem dX1_isMeantBy_11 : decode cX1_isMeantBy 11 = .ok (.lload_n 1, 1) := by decide +kernel
theorem dX1_isMeantBy_12 : decode cX1_isMeantBy 12 = .ok (.aload_n 0, 1) := by decide +kernel
theorem dX1_isMeantBy_13 : decode cX1_isMeantBy 13 = .ok (.getfield 36, 3) := by decide +kernel
theorem dX1_isMeantBy_16 : decode cX1_isMeantBy 16 = .ok (.lcmp, 1) := by decide +kernel
theorem dX1_isMeantBy_17 : decode cX1_isMeantBy 17 = .ok (.ifCond .ne 7, 3) := by decide +kernel
theorem dX1_isMeantBy_20 : decode cX1_isMeantBy 20 = .ok (.iconst 1, 1) := by decide +kernel
theorem dX1_isMeantBy_21 : decode cX1_isMeantBy 21 = .ok (.goto 4, 3) := by decide +kernel
theorem dX1_isMeantBy_24 : decode cX1_isMeantBy 24 = .ok (.iconst 0, 1) := by decide +kernel
theorem dX1_isMeantBy_25 : decode cX1_isMeantBy 25 = .ok (.ireturn, 1) := by decide +kernel
theorem dX1_isMeantBy_26 : decode cX1_isMeantBy 26 = .ok (.lload_n 1, 1) := by decide +kernel
theorem dX1_isMeantBy_27 : decode cX1_isMeantBy 27 = .ok (.invokestatic 52, 3) := by decide +kernel
theorem dX1_isMeantBy_30 : decode cX1_isMeantBy 30 = .ok (.ldc 107, 2) := by decide +kernel
theorem dX1_isMeantBy_32 : decode cX1_isMeantBy 32 = .ok (.if_icmp .eq 17, 3) := by decide +kernel
theorem dX1_isMeantBy_35 : decode cX1_isMeantBy 35 = .ok (.lload_n 1, 1) := by decide +kernel
theorem dX1_isMeantBy_36 : decode cX1_isMeantBy 36 = .ok (.invokestatic 52, 3) := by decide +kernel
theorem dX1_isMeantBy_39 : decode cX1_isMeantBy 39 = .ok (.aload_n 0, 1) := by decide +kernel
theorem dX1_isMeantBy_40 : decode cX1_isMeantBy 40 = .ok (.getfield 36, 3) := by decide +kernel
theorem dX1_isMeantBy_43 : decode cX1_isMeantBy 43 = .ok (.invokestatic 52, 3) := by decide +kernel
theorem dX1_isMeantBy_46 : decode cX1_isMeantBy 46 = .ok (.if_icmp .ne 7, 3) := by decide +kernel
theorem dX1_isMeantBy_49 : decode cX1_isMeantBy 49 = .ok (.iconst 1, 1) := by decide +kernel
theorem dX1_isMeantBy_50 : decode cX1_isMeantBy 50 = .ok (.goto 4, 3) := by decide +kernel
theorem dX1_isMeantBy_53 : decode cX1_isMeantBy 53 = .ok (.iconst 0, 1) := by decide +kernel
theorem dX1_isMeantBy_54 : decode cX1_isMeantBy 54 = .ok (.ireturn, 1) := by decide +kernel
theorem dX1_speaksTo_0 : decode cX1_speaksTo 0 = .ok (.aload_n 1, 1) := by decide +kernel
theorem dX1_speaksTo_1 : decode cX1_speaksTo 1 = .ok (.getfield 108, 3) := by decide +kernel
theorem dX1_speaksTo_4 : decode cX1_speaksTo 4 = .ok (.bipush 16, 2) := by decide +kernel
theorem dX1_speaksTo_6 : decode cX1_speaksTo 6 = .ok (.if_icmp .ne 11, 3) := by decide +kernel
theorem dX1_speaksTo_9 : decode cX1_speaksTo 9 = .ok (.aload_n 0, 1) := by decide +kernel
theorem dX1_speaksTo_10 : decode cX1_speaksTo 10 = .ok (.aload_n 1, 1) := by decide +kernel
theorem dX1_speaksTo_11 : decode cX1_speaksTo 11 = .ok (.aload_n 2, 1) := by decide +kernel
theorem dX1_speaksTo_12 : decode cX1_speaksTo 12 = .ok (.aload_n 3, 1) := by decide +kernel
theorem dX1_speaksTo_13 : decode cX1_speaksTo 13 = .ok (.invokevirtual 113, 3) := by decide +kernel
theorem dX1_speaksTo_16 : decode cX1_speaksTo 16 = .ok (.ireturn, 1) := by decide +kernel
theorem dX1_speaksTo_17 : decode cX1_speaksTo 17 = .ok (.aload_n 1, 1) := by decide +kernel
theorem dX1_speaksTo_18 : decode cX1_speaksTo 18 = .ok (.getfield 108, 3) := by decide +kernel
theorem dX1_speaksTo_21 : decode cX1_speaksTo 21 = .ok (.bipush 48, 2) := by decide +kernel
theorem dX1_speaksTo_23 : decode cX1_speaksTo 23 = .ok (.if_icmp .eq 19, 3) := by decide +kernel
theorem dX1_speaksTo_26 : decode cX1_speaksTo 26 = .ok (.aload_n 1, 1) := by decide +kernel
theorem dX1_speaksTo_27 : decode cX1_speaksTo 27 = .ok (.getfield 108, 3) := by decide +kernel
theorem dX1_speaksTo_30 : decode cX1_speaksTo 30 = .ok (.bipush 32, 2) := by decide +kernel
theorem dX1_speaksTo_32 : decode cX1_speaksTo 32 = .ok (.if_icmp .ne 20, 3) := by decide +kernel
theorem dX1_speaksTo_35 : decode cX1_speaksTo 35 = .ok (.aload_n 1, 1) := by decide +kernel
theorem dX1_speaksTo_36 : decode cX1_speaksTo 36 = .ok (.invokevirtual 117, 3) := by decide +kernel
theorem dX1_speaksTo_39 : decode cX1_speaksTo 39 = .ok (.ifCond .ne 13, 3) := by decide +kernel
theorem dX1_speaksTo_42 : decode cX1_speaksTo 42 = .ok (.aload_n 0, 1) := by decide +kernel
theorem dX1_speaksTo_43 : decode cX1_speaksTo 43 = .ok (.aload_n 1, 1) := by decide +kernel
theorem dX1_speaksTo_44 : decode cX1_speaksTo 44 = .ok (.aload_n 2, 1) := by decide +kernel
theorem dX1_speaksTo_45 : decode cX1_speaksTo 45 = .ok (.aload_n 3, 1) := by decide +kernel
theorem dX1_speaksTo_46 : decode cX1_speaksTo 46 = .ok (.iload 4, 2) := by decide +kernel
theorem dX1_speaksTo_48 : decode cX1_speaksTo 48 = .ok (.invokevirtual 121, 3) := by decide +kernel
theorem dX1_speaksTo_51 : decode cX1_speaksTo 51 = .ok (.ireturn, 1) := by decide +kernel
theorem dX1_speaksTo_52 : decode cX1_speaksTo 52 = .ok (.iconst 0, 1) := by decide +kernel
theorem dX1_speaksTo_53 : decode cX1_speaksTo 53 = .ok (.ireturn, 1) := by decide +kernel
theorem dX1_speaksToSearch_0 : decode cX1_speaksToSearch 0 = .ok (.aload_n 1, 1) := by decide +kernel
theorem dX1_speaksToSearch_1 : decode cX1_speaksToSearch 1 = .ok (.getfield 125, 3) := by decide +kernel
theorem dX1_speaksToSearch_4 : decode cX1_speaksToSearch 4 = .ok (.invokevirtual 78, 3) := by decide +kernel
theorem dX1_speaksToSearch_7 : decode cX1_speaksToSearch 7 = .ok (.istore 4, 2) := by decide +kernel
theorem dX1_speaksToSearch_9 : decode cX1_speaksToSearch 9 = .ok (.aload_n 1, 1) := by decide +kernel
theorem dX1_speaksToSearch_10 : decode cX1_speaksToSearch 10 = .ok (.getfield 128, 3) := by decide +kernel
theorem dX1_speaksToSearch_13 : decode cX1_speaksToSearch 13 = .ok (.iconst 1, 1) := by decide +kernel
theorem dX1_speaksToSearch_14 : decode cX1_speaksToSearch 14 = .ok (.if_icmp .ne 66, 3) := by decide +kernel
theorem dX1_speaksToSearch_17 : decode cX1_speaksToSearch 17 = .ok (.iload 4, 2) := by decide +kernel
theorem dX1_speaksToSearch_19 : decode cX1_speaksToSearch 19 = .ok (.bipush 12, 2) := by decide +kernel
theorem dX1_speaksToSearch_21 : decode cX1_speaksToSearch 21 = .ok (.if_icmp .ne 59, 3) := by decide +kernel
theorem dX1_speaksToSearch_24 : decode cX1_speaksToSearch 24 = .ok (.aload_n 0, 1) := by decide +kernel
theorem dX1_speaksToSearch_25 : decode cX1_speaksToSearch 25 = .ok (.getfield 60, 3) := by decide +kernel
theorem dX1_speaksToSearch_28 : decode cX1_speaksToSearch 28 = .ok (.ifCond .ne 40, 3) := by decide +kernel
theorem dX1_speaksToSearch_31 : decode cX1_speaksToSearch 31 = .ok (.aload_n 0, 1) := by decide +kernel
theorem dX1_speaksToSearch_32 : decode cX1_speaksToSearch 32 = .ok (.getfield 36, 3) := by decide +kernel
theorem dX1_speaksToSearch_35 : decode cX1_speaksToSearch 35 = .ok (.aload_n 1, 1) := by decide +kernel
theorem dX1_speaksToSearch_36 : decode cX1_speaksToSearch 36 = .ok (.getfield 125, 3) := by decide +kernel
theorem dX1_speaksToSearch_39 : decode cX1_speaksToSearch 39 = .ok (.iconst 0, 1) := by decide +kernel
theorem dX1_speaksToSearch_40 : decode cX1_speaksToSearch 40 = .ok (.bipush 6, 2) := by decide +kernel
theorem dX1_speaksToSearch_42 : decode cX1_speaksToSearch 42 = .ok (.invokevirtual 131, 3) := by decide +kernel
theorem dX1_speaksToSearch_45 : decode cX1_speaksToSearch 45 = .ok (.lcmp, 1) := by decide +kernel
theorem dX1_speaksToSearch_46 : decode cX1_speaksToSearch 46 = .ok (.ifCond .lt 22, 3) := by decide +kernel
theorem dX1_speaksToSearch_49 : decode cX1_speaksToSearch 49 = .ok (.aload_n 0, 1) := by decide +kernel
theorem dX1_speaksToSearch_50 : decode cX1_speaksToSearch 50 = .ok (.getfield 36, 3) := by decide +kernel
theorem dX1_speaksToSearch_53 : decode cX1_speaksToSearch 53 = .ok (.aload_n 1, 1) := by decide +kernel
theorem dX1_speaksToSearch_54 : decode cX1_speaksToSearch 54 = .ok (.getfield 125, 3) := by decide +kernel
theorem dX1_speaksToSearch_57 : decode cX1_speaksToSearch 57 = .ok (.bipush 6, 2) := by decide +kernel
theorem dX1_speaksToSearch_59 : decode cX1_speaksToSearch 59 = .ok (.bipush 6, 2) := by decide +kernel
theorem dX1_speaksToSearch_61 : decode cX1_speaksToSearch 61 = .ok (.invokevirtual 131, 3) := by decide +kernel
theorem dX1_speaksToSearch_64 : decode cX1_speaksToSearch 64 = .ok (.lcmp, 1) := by decide +kernel
theorem dX1_speaksToSearch_65 : decode cX1_speaksToSearch 65 = .ok (.ifCond .le 5, 3) := by decide +kernel
theorem dX1_speaksToSearch_68 : decode cX1_speaksToSearch 68 = .ok (.iconst 0, 1) := by decide +kernel
theorem dX1_speaksToSearch_69 : decode cX1_speaksToSearch 69 = .ok (.ireturn, 1) := by decide +kernel
theorem dX1_speaksToSearch_70 : decode cX1_speaksToSearch 70 = .ok (.aload_n 0, 1) := by decide +kernel
theorem dX1_speaksToSearch_71 : decode cX1_speaksToSearch 71 = .ok (.getfield 36, 3) := by decide +kernel
theorem dX1_speaksToSearch_74 : decode cX1_speaksToSearch 74 = .ok (.aload_n 3, 1) := by decide +kernel
theorem dX1_speaksToSearch_75 : decode cX1_speaksToSearch 75 = .ok (.invokestatic 135, 3) := by decide +kernel
theorem dX1_speaksToSearch_78 : decode cX1_speaksToSearch 78 = .ok (.iconst 1, 1) := by decide +kernel
theorem dX1_speaksToSearch_79 : decode cX1_speaksToSearch 79 = .ok (.ireturn, 1) := by decide +kernel
theorem dX1_speaksToSearch_80 : decode cX1_speaksToSearch 80 = .ok (.aload_n 1, 1) := by decide +kernel
theorem dX1_speaksToSearch_81 : decode cX1_speaksToSearch 81 = .ok (.getfield 128, 3) := by decide +kernel
theorem dX1_speaksToSearch_84 : decode cX1_speaksToSearch 84 = .ok (.iconst 2, 1) := by decide +kernel
theorem dX1_speaksToSearch_85 : decode cX1_speaksToSearch 85 = .ok (.if_icmp .eq 11, 3) := by decide +kernel
theorem dX1_speaksToSearch_88 : decode cX1_speaksToSearch 88 = .ok (.aload_n 1, 1) := by decide +kernel
theorem dX1_speaksToSearch_89 : decode cX1_speaksToSearch 89 = .ok (.getfield 128, 3) := by decide +kernel
theorem dX1_speaksToSearch_92 : decode cX1_speaksToSearch 92 = .ok (.iconst 3, 1) := by decide +kernel
theorem dX1_speaksToSearch_93 : decode cX1_speaksToSearch 93 = .ok (.if_icmp .ne 8, 3) := by decide +kernel
theorem dX1_speaksToSearch_96 : decode cX1_speaksToSearch 96 = .ok (.iload 4, 2) := by decide +kernel
theorem dX1_speaksToSearch_98 : decode cX1_speaksToSearch 98 = .ok (.ifCond .eq 5, 3) := by decide +kernel
theorem dX1_speaksToSearch_101 : decode cX1_speaksToSearch 101 = .ok (.iconst 0, 1) := by decide +kernel
theorem dX1_speaksToSearch_102 : decode cX1_speaksToSearch 102 = .ok (.ireturn, 1) := by decide +kernel
theorem dX1_speaksToSearch_103 : decode cX1_speaksToSearch 103 = .ok (.aload_n 0, 1) := by decide +kernel
theorem dX1_speaksToSearch_104 : decode cX1_speaksToSearch 104 = .ok (.aload_n 1, 1) := by decide +kernel
theorem dX1_speaksToSearch_105 : decode cX1_speaksToSearch 105 = .ok (.getfield 128, 3) := by decide +kernel
theorem dX1_speaksToSearch_108 : decode cX1_speaksToSearch 108 = .ok (.iconst 2, 1) := by decide +kernel
theorem dX1_speaksToSearch_109 : decode cX1_speaksToSearch 109 = .ok (.if_icmp .ne 7, 3) := by decide +kernel
theorem dX1_speaksToSearch_112 : decode cX1_speaksToSearch 112 = .ok (.iconst 1, 1) := by decide +kernel
theorem dX1_speaksToSearch_113 : decode cX1_speaksToSearch 113 = .ok (.goto 4, 3) := by decide +kernel
theorem dX1_speaksToSearch_116 : decode cX1_speaksToSearch 116 = .ok (.iconst 0, 1) := by decide +kernel
theorem dX1_speaksToSearch_117 : decode cX1_speaksToSearch 117 = .ok (.putfield 60, 3) := by decide +kernel
theorem dX1_speaksToSearch_120 : decode cX1_speaksToSearch 120 = .ok (.aload_n 1, 1) := by decide +kernel
theorem dX1_speaksToSearch_121 : decode cX1_speaksToSearch 121 = .ok (.invokevirtual 117, 3) := by decide +kernel
theorem dX1_speaksToSearch_124 : decode cX1_speaksToSearch 124 = .ok (.ifCond .eq 5, 3) := by decide +kernel
theorem dX1_speaksToSearch_127 : decode cX1_speaksToSearch 127 = .ok (.iconst 0, 1) := by decide +kernel
theorem dX1_speaksToSearch_128 : decode cX1_speaksToSearch 128 = .ok (.ireturn, 1) := by decide +kernel
theorem dX1_speaksToSearch_129 : decode cX1_speaksToSearch 129 = .ok (.aload_n 2, 1) := by decide +kernel
theorem dX1_speaksToSearch_130 : decode cX1_speaksToSearch 130 = .ok (.aload_n 1, 1) := by decide +kernel
theorem dX1_speaksToSearch_131 : decode cX1_speaksToSearch 131 = .ok (.aload_n 0, 1) := by decide +kernel
theorem dX1_speaksToSearch_132 : decode cX1_speaksToSearch 132 = .ok (.getfield 36, 3) := by decide +kernel
theorem dX1_speaksToSearch_135 : decode cX1_speaksToSearch 135 = .ok (.invokevirtual 141, 3) := by decide +kernel
theorem dX1_speaksToSearch_138 : decode cX1_speaksToSearch 138 = .ok (.aload_n 2, 1) := by decide +kernel
theorem dX1_speaksToSearch_139 : decode cX1_speaksToSearch 139 = .ok (.getfield 125, 3) := by decide +kernel
theorem dX1_speaksToSearch_142 : decode cX1_speaksToSearch 142 = .ok (.lconst 0, 1) := by decide +kernel
theorem dX1_speaksToSearch_143 : decode cX1_speaksToSearch 143 = .ok (.iconst 2, 1) := by decide +kernel
theorem dX1_speaksToSearch_144 : decode cX1_speaksToSearch 144 = .ok (.invokevirtual 145, 3) := by decide +kernel
theorem dX1_speaksToSearch_147 : decode cX1_speaksToSearch 147 = .ok (.aload_n 2, 1) := by decide +kernel
theorem dX1_speaksToSearch_148 : decode cX1_speaksToSearch 148 = .ok (.aload_n 0, 1) := by decide +kernel
theorem dX1_speaksToSearch_149 : decode cX1_speaksToSearch 149 = .ok (.getfield 75, 3) := by decide +kernel
theorem dX1_speaksToSearch_152 : decode cX1_speaksToSearch 152 = .ok (.putfield 149, 3) := by decide +kernel
theorem dX1_speaksToSearch_155 : decode cX1_speaksToSearch 155 = .ok (.aload_n 2, 1) := by decide +kernel
theorem dX1_speaksToSearch_156 : decode cX1_speaksToSearch 156 = .ok (.aload_n 3, 1) := by decide +kernel
theorem dX1_speaksToSearch_157 : decode cX1_speaksToSearch 157 = .ok (.invokevirtual 152, 3) := by decide +kernel
theorem dX1_speaksToSearch_160 : decode cX1_speaksToSearch 160 = .ok (.iconst 1, 1) := by decide +kernel
theorem dX1_speaksToSearch_161 : decode cX1_speaksToSearch 161 = .ok (.ireturn, 1) := by decide +kernel
theorem dX1_speaksToOrder_0 : decode cX1_speaksToOrder 0 = .ok (.aload_n 1, 1) := by decide +kernel
theorem dX1_speaksToOrder_1 : decode cX1_speaksToOrder 1 = .ok (.invokevirtual 117, 3) := by decide +kernel
theorem dX1_speaksToOrder_4 : decode cX1_speaksToOrder 4 = .ok (.istore 5, 2) := by decide +kernel
theorem dX1_speaksToOrder_6 : decode cX1_speaksToOrder 6 = .ok (.aload_n 1, 1) := by decide +kernel
theorem dX1_speaksToOrder_7 : decode cX1_speaksToOrder 7 = .ok (.getfield 108, 3) := by decide +kernel
theorem dX1_speaksToOrder_10 : decode cX1_speaksToOrder 10 = .ok (.bipush 48, 2) := by decide +kernel
theorem dX1_speaksToOrder_12 : decode cX1_speaksToOrder 12 = .ok (.if_icmp .ne 7, 3) := by decide +kernel
theorem dX1_speaksToOrder_15 : decode cX1_speaksToOrder 15 = .ok (.iconst 1, 1) := by decide +kernel
theorem dX1_speaksToOrder_16 : decode cX1_speaksToOrder 16 = .ok (.goto 4, 3) := by decide +kernel
theorem dX1_speaksToOrder_19 : decode cX1_speaksToOrder 19 = .ok (.iconst 0, 1) := by decide +kernel
theorem dX1_speaksToOrder_20 : decode cX1_speaksToOrder 20 = .ok (.istore 6, 2) := by decide +kernel
theorem dX1_speaksToOrder_22 : decode cX1_speaksToOrder 22 = .ok (.iload 5, 2) := by decide +kernel
theorem dX1_speaksToOrder_24 : decode cX1_speaksToOrder 24 = .ok (.ifCond .ne 16, 3) := by decide +kernel
theorem dX1_speaksToOrder_27 : decode cX1_speaksToOrder 27 = .ok (.aload_n 0, 1) := by decide +kernel
theorem dX1_speaksToOrder_28 : decode cX1_speaksToOrder 28 = .ok (.aload_n 0, 1) := by decide +kernel
theorem dX1_speaksToOrder_29 : decode cX1_speaksToOrder 29 = .ok (.getfield 81, 3) := by decide +kernel
theorem dX1_speaksToOrder_32 : decode cX1_speaksToOrder 32 = .ok (.iconst 1, 1) := by decide +kernel
theorem dX1_speaksToOrder_33 : decode cX1_speaksToOrder 33 = .ok (.iadd, 1) := by decide +kernel
theorem dX1_speaksToOrder_34 : decode cX1_speaksToOrder 34 = .ok (.ldc 107, 2) := by decide +kernel
theorem dX1_speaksToOrder_36 : decode cX1_speaksToOrder 36 = .ok (.iand, 1) := by decide +kernel
theorem dX1_speaksToOrder_37 : decode cX1_speaksToOrder 37 = .ok (.putfield 81, 3) := by decide +kernel
theorem dX1_speaksToOrder_40 : decode cX1_speaksToOrder 40 = .ok (.aload_n 2, 1) := by decide +kernel
theorem dX1_speaksToOrder_41 : decode cX1_speaksToOrder 41 = .ok (.aload_n 1, 1) := by decide +kernel
theorem dX1_speaksToOrder_42 : decode cX1_speaksToOrder 42 = .ok (.aload_n 0, 1) := by decide +kernel
theorem dX1_speaksToOrder_43 : decode cX1_speaksToOrder 43 = .ok (.getfield 36, 3) := by decide +kernel
theorem dX1_speaksToOrder_46 : decode cX1_speaksToOrder 46 = .ok (.invokevirtual 141, 3) := by decide +kernel
theorem dX1_speaksToOrder_49 : decode cX1_speaksToOrder 49 = .ok (.aload_n 1, 1) := by decide +kernel
theorem dX1_speaksToOrder_50 : decode cX1_speaksToOrder 50 = .ok (.getfield 155, 3) := by decide +kernel
theorem dX1_speaksToOrder_53 : decode cX1_speaksToOrder 53 = .ok (.aload_n 1, 1) := by decide +kernel
theorem dX1_speaksToOrder_54 : decode cX1_speaksToOrder 54 = .ok (.getfield 128, 3) := by decide +kernel
theorem dX1_speaksToOrder_57 : decode cX1_speaksToOrder 57 = .ok (.iload 6, 2) := by decide +kernel
theorem dX1_speaksToOrder_59 : decode cX1_speaksToOrder 59 = .ok (.aload_n 1, 1) := by decide +kernel
theorem dX1_speaksToOrder_60 : decode cX1_speaksToOrder 60 = .ok (.getfield 125, 3) := by decide +kernel
theorem dX1_speaksToOrder_63 : decode cX1_speaksToOrder 63 = .ok (.invokevirtual 78, 3) := by decide +kernel
theorem dX1_speaksToOrder_66 : decode cX1_speaksToOrder 66 = .ok (.invokestatic 158, 3) := by decide +kernel
theorem dX1_speaksToOrder_69 : decode cX1_speaksToOrder 69 = .ok (.istore 7, 2) := by decide +kernel
theorem dX1_speaksToOrder_71 : decode cX1_speaksToOrder 71 = .ok (.iload 7, 2) := by decide +kernel
theorem dX1_speaksToOrder_73 : decode cX1_speaksToOrder 73 = .ok (.iconst (-1), 1) := by decide +kernel
theorem dX1_speaksToOrder_74 : decode cX1_speaksToOrder 74 = .ok (.if_icmp .ne 17, 3) := by decide +kernel
theorem dX1_speaksToOrder_77 : decode cX1_speaksToOrder 77 = .ok (.iload 6, 2) := by decide +kernel
theorem dX1_speaksToOrder_79 : decode cX1_speaksToOrder 79 = .ok (.ifCond .eq 12, 3) := by decide +kernel
theorem dX1_speaksToOrder_82 : decode cX1_speaksToOrder 82 = .ok (.aload_n 0, 1) := by decide +kernel
theorem dX1_speaksToOrder_83 : decode cX1_speaksToOrder 83 = .ok (.aload_n 1, 1) := by decide +kernel
theorem dX1_speaksToOrder_84 : decode cX1_speaksToOrder 84 = .ok (.iload 5, 2) := by decide +kernel
theorem dX1_speaksToOrder_86 : decode cX1_speaksToOrder 86 = .ok (.invokevirtual 162, 3) := by decide +kernel
theorem dX1_speaksToOrder_89 : decode cX1_speaksToOrder 89 = .ok (.istore 7, 2) := by decide +kernel
theorem dX1_speaksToOrder_91 : decode cX1_speaksToOrder 91 = .ok (.iload 7, 2) := by decide +kernel
theorem dX1_speaksToOrder_93 : decode cX1_speaksToOrder 93 = .ok (.iconst (-1), 1) := by decide +kernel
theorem dX1_speaksToOrder_94 : decode cX1_speaksToOrder 94 = .ok (.if_icmp .eq 12, 3) := by decide +kernel
theorem dX1_speaksToOrder_97 : decode cX1_speaksToOrder 97 = .ok (.aload_n 2, 1) := by decide +kernel
theorem dX1_speaksToOrder_98 : decode cX1_speaksToOrder 98 = .ok (.iload 7, 2) := by decide +kernel
theorem dX1_speaksToOrder_100 : decode cX1_speaksToOrder 100 = .ok (.invokevirtual 166, 3) := by decide +kernel
theorem dX1_speaksToOrder_103 : decode cX1_speaksToOrder 103 = .ok (.goto 30, 3) := by decide +kernel
theorem dX1_speaksToOrder_106 : decode cX1_speaksToOrder 106 = .ok (.iload 6, 2) := by decide +kernel
theorem dX1_speaksToOrder_108 : decode cX1_speaksToOrder 108 = .ok (.ifCond .eq 16, 3) := by decide +kernel
theorem dX1_speaksToOrder_111 : decode cX1_speaksToOrder 111 = .ok (.aload_n 0, 1) := by decide +kernel
theorem dX1_speaksToOrder_112 : decode cX1_speaksToOrder 112 = .ok (.aload_n 1, 1) := by decide +kernel
theorem dX1_speaksToOrder_113 : decode cX1_speaksToOrder 113 = .ok (.aload_n 2, 1) := by decide +kernel
theorem dX1_speaksToOrder_114 : decode cX1_speaksToOrder 114 = .ok (.iload 5, 2) := by decide +kernel
theorem dX1_speaksToOrder_116 : decode cX1_speaksToOrder 116 = .ok (.iload 4, 2) := by decide +kernel
theorem dX1_speaksToOrder_118 : decode cX1_speaksToOrder 118 = .ok (.invokevirtual 169, 3) := by decide +kernel
theorem dX1_speaksToOrder_121 : decode cX1_speaksToOrder 121 = .ok (.goto 12, 3) := by decide +kernel
theorem dX1_speaksToOrder_124 : decode cX1_speaksToOrder 124 = .ok (.aload_n 0, 1) := by decide +kernel
theorem dX1_speaksToOrder_125 : decode cX1_speaksToOrder 125 = .ok (.aload_n 1, 1) := by decide +kernel
theorem dX1_speaksToOrder_126 : decode cX1_speaksToOrder 126 = .ok (.getfield 128, 3) := by decide +kernel
theorem dX1_speaksToOrder_129 : decode cX1_speaksToOrder 129 = .ok (.aload_n 2, 1) := by decide +kernel
theorem dX1_speaksToOrder_130 : decode cX1_speaksToOrder 130 = .ok (.invokevirtual 173, 3) := by decide +kernel
theorem dX1_speaksToOrder_133 : decode cX1_speaksToOrder 133 = .ok (.iload 5, 2) := by decide +kernel
theorem dX1_speaksToOrder_135 : decode cX1_speaksToOrder 135 = .ok (.ifCond .eq 5, 3) := by decide +kernel
theorem dX1_speaksToOrder_138 : decode cX1_speaksToOrder 138 = .ok (.iconst 0, 1) := by decide +kernel
theorem dX1_speaksToOrder_139 : decode cX1_speaksToOrder 139 = .ok (.ireturn, 1) := by decide +kernel
theorem dX1_speaksToOrder_140 : decode cX1_speaksToOrder 140 = .ok (.aload_n 2, 1) := by decide +kernel
theorem dX1_speaksToOrder_141 : decode cX1_speaksToOrder 141 = .ok (.aload_n 0, 1) := by decide +kernel
theorem dX1_speaksToOrder_142 : decode cX1_speaksToOrder 142 = .ok (.getfield 75, 3) := by decide +kernel
theorem dX1_speaksToOrder_145 : decode cX1_speaksToOrder 145 = .ok (.putfield 149, 3) := by decide +kernel
theorem dX1_speaksToOrder_148 : decode cX1_speaksToOrder 148 = .ok (.aload_n 2, 1) := by decide +kernel
theorem dX1_speaksToOrder_149 : decode cX1_speaksToOrder 149 = .ok (.aload_n 3, 1) := by decide +kernel
theorem dX1_speaksToOrder_150 : decode cX1_speaksToOrder 150 = .ok (.invokevirtual 152, 3) := by decide +kernel
theorem dX1_speaksToOrder_153 : decode cX1_speaksToOrder 153 = .ok (.iconst 1, 1) := by decide +kernel
theorem dX1_speaksToOrder_154 : decode cX1_speaksToOrder 154 = .ok (.ireturn, 1) := by decide +kernel
theorem dX1_formRefusal_0 : decode cX1_formRefusal 0 = .ok (.iload_n 0, 1) := by decide +kernel
theorem dX1_formRefusal_1 : decode cX1_formRefusal 1 = .ok (.ifCond .eq 16, 3) := by decide +kernel
theorem dX1_formRefusal_4 : decode cX1_formRefusal 4 = .ok (.iload_n 2, 1) := by decide +kernel
theorem dX1_formRefusal_5 : decode cX1_formRefusal 5 = .ok (.ifCond .eq 9, 3) := by decide +kernel
theorem dX1_formRefusal_8 : decode cX1_formRefusal 8 = .ok (.iload_n 0, 1) := by decide +kernel
theorem dX1_formRefusal_9 : decode cX1_formRefusal 9 = .ok (.ldc 107, 2) := by decide +kernel
theorem dX1_formRefusal_11 : decode cX1_formRefusal 11 = .ok (.if_icmp .eq 6, 3) := by decide +kernel
theorem dX1_formRefusal_14 : decode cX1_formRefusal 14 = .ok (.bipush 9, 2) := by decide +kernel
theorem dX1_formRefusal_16 : decode cX1_formRefusal 16 = .ok (.ireturn, 1) := by decide +kernel
theorem dX1_formRefusal_17 : decode cX1_formRefusal 17 = .ok (.iload_n 1, 1) := by decide +kernel
theorem dX1_formRefusal_18 : decode cX1_formRefusal 18 = .ok (.invokestatic 177, 3) := by decide +kernel
theorem dX1_formRefusal_21 : decode cX1_formRefusal 21 = .ok (.ifCond .ne 5, 3) := by decide +kernel
theorem dX1_formRefusal_24 : decode cX1_formRefusal 24 = .ok (.iconst 0, 1) := by decide +kernel
theorem dX1_formRefusal_25 : decode cX1_formRefusal 25 = .ok (.ireturn, 1) := by decide +kernel
theorem dX1_formRefusal_26 : decode cX1_formRefusal 26 = .ok (.iload_n 2, 1) := by decide +kernel
theorem dX1_formRefusal_27 : decode cX1_formRefusal 27 = .ok (.ifCond .ne 24, 3) := by decide +kernel
theorem dX1_formRefusal_30 : decode cX1_formRefusal 30 = .ok (.iload_n 3, 1) := by decide +kernel
theorem dX1_formRefusal_31 : decode cX1_formRefusal 31 = .ok (.iload_n 1, 1) := by decide +kernel
theorem dX1_formRefusal_32 : decode cX1_formRefusal 32 = .ok (.bipush 32, 2) := by decide +kernel
theorem dX1_formRefusal_34 : decode cX1_formRefusal 34 = .ok (.if_icmp .ne 7, 3) := by decide +kernel
theorem dX1_formRefusal_37 : decode cX1_formRefusal 37 = .ok (.iconst 1, 1) := by decide +kernel
theorem dX1_formRefusal_38 : decode cX1_formRefusal 38 = .ok (.goto 4, 3) := by decide +kernel
theorem dX1_formRefusal_41 : decode cX1_formRefusal 41 = .ok (.iconst 0, 1) := by decide +kernel
theorem dX1_formRefusal_42 : decode cX1_formRefusal 42 = .ok (.if_icmp .ne 7, 3) := by decide +kernel
theorem dX1_formRefusal_45 : decode cX1_formRefusal 45 = .ok (.iconst (-1), 1) := by decide +kernel
theorem dX1_formRefusal_46 : decode cX1_formRefusal 46 = .ok (.goto 4, 3) := by decide +kernel
theorem dX1_formRefusal_49 : decode cX1_formRefusal 49 = .ok (.iconst 1, 1) := by decide +kernel
theorem dX1_formRefusal_50 : decode cX1_formRefusal 50 = .ok (.ireturn, 1) := by decide +kernel
theorem dX1_formRefusal_51 : decode cX1_formRefusal 51 = .ok (.iload_n 1, 1) := by decide +kernel
theorem dX1_formRefusal_52 : decode cX1_formRefusal 52 = .ok (.lookupswitch 89 #[(130, 44), (224, 56), (240, 67), (4096, 78)], 44) := by decide +kernel
theorem dX1_formRefusal_96 : decode cX1_formRefusal 96 = .ok (.iload_n 3, 1) := by decide +kernel
theorem dX1_formRefusal_97 : decode cX1_formRefusal 97 = .ok (.bipush 32, 2) := by decide +kernel
theorem dX1_formRefusal_99 : decode cX1_formRefusal 99 = .ok (.if_icmp .gt 7, 3) := by decide +kernel
theorem dX1_formRefusal_102 : decode cX1_formRefusal 102 = .ok (.iconst (-1), 1) := by decide +kernel
theorem dX1_formRefusal_103 : decode cX1_formRefusal 103 = .ok (.goto 4, 3) := by decide +kernel
theorem dX1_formRefusal_106 : decode cX1_formRefusal 106 = .ok (.iconst 1, 1) := by decide +kernel
theorem dX1_formRefusal_107 : decode cX1_formRefusal 107 = .ok (.ireturn, 1) := by decide +kernel
theorem dX1_formRefusal_108 : decode cX1_formRefusal 108 = .ok (.iload_n 3, 1) := by decide +kernel
theorem dX1_formRefusal_109 : decode cX1_formRefusal 109 = .ok (.iconst 1, 1) := by decide +kernel
theorem dX1_formRefusal_110 : decode cX1_formRefusal 110 = .ok (.if_icmp .ne 7, 3) := by decide +kernel
theorem dX1_formRefusal_113 : decode cX1_formRefusal 113 = .ok (.iconst (-1), 1) := by decide +kernel
theorem dX1_formRefusal_114 : decode cX1_formRefusal 114 = .ok (.goto 4, 3) := by decide +kernel
theorem dX1_formRefusal_117 : decode cX1_formRefusal 117 = .ok (.iconst 1, 1) := by decide +kernel
theorem dX1_formRefusal_118 : decode cX1_formRefusal 118 = .ok (.ireturn, 1) := by decide +kernel
theorem dX1_formRefusal_119 : decode cX1_formRefusal 119 = .ok (.iload_n 3, 1) := by decide +kernel
theorem dX1_formRefusal_120 : decode cX1_formRefusal 120 = .ok (.iconst 2, 1) := by decide +kernel
theorem dX1_formRefusal_121 : decode cX1_formRefusal 121 = .ok (.if_icmp .ne 7, 3) := by decide +kernel
theorem dX1_formRefusal_124 : decode cX1_formRefusal 124 = .ok (.iconst (-1), 1) := by decide +kernel
theorem dX1_formRefusal_125 : decode cX1_formRefusal 125 = .ok (.goto 4, 3) := by decide +kernel
theorem dX1_formRefusal_128 : decode cX1_formRefusal 128 = .ok (.iconst 1, 1) := by decide +kernel
theorem dX1_formRefusal_129 : decode cX1_formRefusal 129 = .ok (.ireturn, 1) := by decide +kernel
theorem dX1_formRefusal_130 : decode cX1_formRefusal 130 = .ok (.iload_n 3, 1) := by decide +kernel
theorem dX1_formRefusal_131 : decode cX1_formRefusal 131 = .ok (.iconst 1, 1) := by decide +kernel
theorem dX1_formRefusal_132 : decode cX1_formRefusal 132 = .ok (.if_icmp .ne 7, 3) := by decide +kernel
theorem dX1_formRefusal_135 : decode cX1_formRefusal 135 = .ok (.iconst (-1), 1) := by decide +kernel
theorem dX1_formRefusal_136 : decode cX1_formRefusal 136 = .ok (.goto 4, 3) := by decide +kernel
theorem dX1_formRefusal_139 : decode cX1_formRefusal 139 = .ok (.iconst 1, 1) := by decide +kernel
theorem dX1_formRefusal_140 : decode cX1_formRefusal 140 = .ok (.ireturn, 1) := by decide +kernel
theorem dX1_formRefusal_141 : decode cX1_formRefusal 141 = .ok (.iconst 5, 1) := by decide +kernel
theorem dX1_formRefusal_142 : decode cX1_formRefusal 142 = .ok (.ireturn, 1) := by decide +kernel
theorem dX1_isKnown_0 : decode cX1_isKnown 0 = .ok (.iconst 0, 1) := by decide +kernel
theorem dX1_isKnown_1 : decode cX1_isKnown 1 = .ok (.istore_n 1, 1) := by decide +kernel
theorem dX1_isKnown_2 : decode cX1_isKnown 2 = .ok (.iload_n 1, 1) := by decide +kernel
theorem dX1_isKnown_3 : decode cX1_isKnown 3 = .ok (.getstatic 180, 3) := by decide +kernel
theorem dX1_isKnown_6 : decode cX1_isKnown 6 = .ok (.arraylength, 1) := by decide +kernel
theorem dX1_isKnown_7 : decode cX1_isKnown 7 = .ok (.if_icmp .ge 20, 3) := by decide +kernel
theorem dX1_isKnown_10 : decode cX1_isKnown 10 = .ok (.getstatic 180, 3) := by decide +kernel
theorem dX1_isKnown_13 : decode cX1_isKnown 13 = .ok (.iload_n 1, 1) := by decide +kernel
theorem dX1_isKnown_14 : decode cX1_isKnown 14 = .ok (.iaload, 1) := by decide +kernel
theorem dX1_isKnown_15 : decode cX1_isKnown 15 = .ok (.iload_n 0, 1) := by decide +kernel
theorem dX1_isKnown_16 : decode cX1_isKnown 16 = .ok (.if_icmp .ne 5, 3) := by decide +kernel
theorem dX1_isKnown_19 : decode cX1_isKnown 19 = .ok (.iconst 1, 1) := by decide +kernel
theorem dX1_isKnown_20 : decode cX1_isKnown 20 = .ok (.ireturn, 1) := by decide +kernel
theorem dX1_isKnown_21 : decode cX1_isKnown 21 = .ok (.iinc 1 1, 3) := by decide +kernel
theorem dX1_isKnown_24 : decode cX1_isKnown 24 = .ok (.goto (-22), 3) := by decide +kernel
theorem dX1_isKnown_27 : decode cX1_isKnown 27 = .ok (.iconst 0, 1) := by decide +kernel
theorem dX1_isKnown_28 : decode cX1_isKnown 28 = .ok (.ireturn, 1) := by decide +kernel
theorem dX1_valueRefusal_0 : decode cX1_valueRefusal 0 = .ok (.aload_n 1, 1) := by decide +kernel
theorem dX1_valueRefusal_1 : decode cX1_valueRefusal 1 = .ok (.getfield 125, 3) := by decide +kernel
theorem dX1_valueRefusal_4 : decode cX1_valueRefusal 4 = .ok (.astore_n 3, 1) := by decide +kernel
theorem dX1_valueRefusal_5 : decode cX1_valueRefusal 5 = .ok (.iconst 1, 1) := by decide +kernel
theorem dX1_valueRefusal_6 : decode cX1_valueRefusal 6 = .ok (.istore 4, 2) := by decide +kernel
theorem dX1_valueRefusal_8 : decode cX1_valueRefusal 8 = .ok (.aload_n 1, 1) := by decide +kernel
theorem dX1_valueRefusal_9 : decode cX1_valueRefusal 9 = .ok (.getfield 128, 3) := by decide +kernel
theorem dX1_valueRefusal_12 : decode cX1_valueRefusal 12 = .ok (.lookupswitch 220 #[(130, 44), (224, 121), (240, 170), (4096, 201)], 44) := by decide +kernel
theorem dX1_valueRefusal_56 : decode cX1_valueRefusal 56 = .ok (.iconst 0, 1) := by decide +kernel
theorem dX1_valueRefusal_57 : decode cX1_valueRefusal 57 = .ok (.istore 5, 2) := by decide +kernel
theorem dX1_valueRefusal_59 : decode cX1_valueRefusal 59 = .ok (.iload 5, 2) := by decide +kernel
theorem dX1_valueRefusal_61 : decode cX1_valueRefusal 61 = .ok (.aload_n 3, 1) := by decide +kernel
theorem dX1_valueRefusal_62 : decode cX1_valueRefusal 62 = .ok (.invokevirtual 78, 3) := by decide +kernel
theorem dX1_valueRefusal_65 : decode cX1_valueRefusal 65 = .ok (.if_icmp .ge 43, 3) := by decide +kernel
theorem dX1_valueRefusal_68 : decode cX1_valueRefusal 68 = .ok (.iload 4, 2) := by decide +kernel
theorem dX1_valueRefusal_70 : decode cX1_valueRefusal 70 = .ok (.ifCond .eq 29, 3) := by decide +kernel
theorem dX1_valueRefusal_73 : decode cX1_valueRefusal 73 = .ok (.aload_n 3, 1) := by decide +kernel
theorem dX1_valueRefusal_74 : decode cX1_valueRefusal 74 = .ok (.iload 5, 2) := by decide +kernel
theorem dX1_valueRefusal_76 : decode cX1_valueRefusal 76 = .ok (.invokevirtual 97, 3) := by decide +kernel
theorem dX1_valueRefusal_79 : decode cX1_valueRefusal 79 = .ok (.bipush 32, 2) := by decide +kernel
theorem dX1_valueRefusal_81 : decode cX1_valueRefusal 81 = .ok (.if_icmp .lt 18, 3) := by decide +kernel
theorem dX1_valueRefusal_84 : decode cX1_valueRefusal 84 = .ok (.aload_n 3, 1) := by decide +kernel
theorem dX1_valueRefusal_85 : decode cX1_valueRefusal 85 = .ok (.iload 5, 2) := by decide +kernel
theorem dX1_valueRefusal_87 : decode cX1_valueRefusal 87 = .ok (.invokevirtual 97, 3) := by decide +kernel
theorem dX1_valueRefusal_90 : decode cX1_valueRefusal 90 = .ok (.bipush 126, 2) := by decide +kernel
theorem dX1_valueRefusal_92 : decode cX1_valueRefusal 92 = .ok (.if_icmp .gt 7, 3) := by decide +kernel
theorem dX1_valueRefusal_95 : decode cX1_valueRefusal 95 = .ok (.iconst 1, 1) := by decide +kernel
theorem dX1_valueRefusal_96 : decode cX1_valueRefusal 96 = .ok (.goto 4, 3) := by decide +kernel
theorem dX1_valueRefusal_99 : decode cX1_valueRefusal 99 = .ok (.iconst 0, 1) := by decide +kernel
theorem dX1_valueRefusal_100 : decode cX1_valueRefusal 100 = .ok (.istore 4, 2) := by decide +kernel
theorem dX1_valueRefusal_102 : decode cX1_valueRefusal 102 = .ok (.iinc 5 1, 3) := by decide +kernel
theorem dX1_valueRefusal_105 : decode cX1_valueRefusal 105 = .ok (.goto (-46), 3) := by decide +kernel
theorem dX1_valueRefusal_108 : decode cX1_valueRefusal 108 = .ok (.iload 4, 2) := by decide +kernel
theorem dX1_valueRefusal_110 : decode cX1_valueRefusal 110 = .ok (.ifCond .eq 122, 3) := by decide +kernel
theorem dX1_valueRefusal_113 : decode cX1_valueRefusal 113 = .ok (.iload_n 2, 1) := by decide +kernel
theorem dX1_valueRefusal_114 : decode cX1_valueRefusal 114 = .ok (.ifCond .ne 118, 3) := by decide +kernel
theorem dX1_valueRefusal_117 : decode cX1_valueRefusal 117 = .ok (.aload_n 0, 1) := by decide +kernel
theorem dX1_valueRefusal_118 : decode cX1_valueRefusal 118 = .ok (.getfield 75, 3) := by decide +kernel
theorem dX1_valueRefusal_121 : decode cX1_valueRefusal 121 = .ok (.aload_n 0, 1) := by decide +kernel
theorem dX1_valueRefusal_122 : decode cX1_valueRefusal 122 = .ok (.getfield 88, 3) := by decide +kernel
theorem dX1_valueRefusal_125 : decode cX1_valueRefusal 125 = .ok (.iadd, 1) := by decide +kernel
theorem dX1_valueRefusal_126 : decode cX1_valueRefusal 126 = .ok (.iconst 4, 1) := by decide +kernel
theorem dX1_valueRefusal_127 : decode cX1_valueRefusal 127 = .ok (.if_icmp .lt 105, 3) := by decide +kernel
theorem dX1_valueRefusal_130 : decode cX1_valueRefusal 130 = .ok (.bipush 7, 2) := by decide +kernel
theorem dX1_valueRefusal_132 : decode cX1_valueRefusal 132 = .ok (.ireturn, 1) := by decide +kernel
theorem dX1_valueRefusal_133 : decode cX1_valueRefusal 133 = .ok (.aload_n 3, 1) := by decide +kernel
theorem dX1_valueRefusal_134 : decode cX1_valueRefusal 134 = .ok (.iconst 0, 1) := by decide +kernel
theorem dX1_valueRefusal_135 : decode cX1_valueRefusal 135 = .ok (.invokevirtual 97, 3) := by decide +kernel
theorem dX1_valueRefusal_138 : decode cX1_valueRefusal 138 = .ok (.istore 5, 2) := by decide +kernel
theorem dX1_valueRefusal_140 : decode cX1_valueRefusal 140 = .ok (.iload 5, 2) := by decide +kernel
theorem dX1_valueRefusal_142 : decode cX1_valueRefusal 142 = .ok (.iconst 1, 1) := by decide +kernel
theorem dX1_valueRefusal_143 : decode cX1_valueRefusal 143 = .ok (.if_icmp .lt 33, 3) := by decide +kernel
theorem dX1_valueRefusal_146 : decode cX1_valueRefusal 146 = .ok (.iload 5, 2) := by decide +kernel
theorem dX1_valueRefusal_148 : decode cX1_valueRefusal 148 = .ok (.aload_n 0, 1) := by decide +kernel
theorem dX1_valueRefusal_149 : decode cX1_valueRefusal 149 = .ok (.getfield 43, 3) := by decide +kernel
theorem dX1_valueRefusal_152 : decode cX1_valueRefusal 152 = .ok (.if_icmp .gt 24, 3) := by decide +kernel
theorem dX1_valueRefusal_155 : decode cX1_valueRefusal 155 = .ok (.aload_n 0, 1) := by decide +kernel
theorem dX1_valueRefusal_156 : decode cX1_valueRefusal 156 = .ok (.getfield 46, 3) := by decide +kernel
theorem dX1_valueRefusal_159 : decode cX1_valueRefusal 159 = .ok (.aload_n 0, 1) := by decide +kernel
theorem dX1_valueRefusal_160 : decode cX1_valueRefusal 160 = .ok (.getfield 40, 3) := by decide +kernel
theorem dX1_valueRefusal_163 : decode cX1_valueRefusal 163 = .ok (.iload 5, 2) := by decide +kernel
theorem dX1_valueRefusal_165 : decode cX1_valueRefusal 165 = .ok (.imul, 1) := by decide +kernel
theorem dX1_valueRefusal_166 : decode cX1_valueRefusal 166 = .ok (.invokestatic 183, 3) := by decide +kernel
theorem dX1_valueRefusal_169 : decode cX1_valueRefusal 169 = .ok (.ifCond .eq 7, 3) := by decide +kernel
theorem dX1_valueRefusal_172 : decode cX1_valueRefusal 172 = .ok (.iconst 1, 1) := by decide +kernel
theorem dX1_valueRefusal_173 : decode cX1_valueRefusal 173 = .ok (.goto 4, 3) := by decide +kernel
theorem dX1_valueRefusal_176 : decode cX1_valueRefusal 176 = .ok (.iconst 0, 1) := by decide +kernel
theorem dX1_valueRefusal_177 : decode cX1_valueRefusal 177 = .ok (.istore 4, 2) := by decide +kernel
theorem dX1_valueRefusal_179 : decode cX1_valueRefusal 179 = .ok (.goto 53, 3) := by decide +kernel
theorem dX1_valueRefusal_182 : decode cX1_valueRefusal 182 = .ok (.aload_n 3, 1) := by decide +kernel
theorem dX1_valueRefusal_183 : decode cX1_valueRefusal 183 = .ok (.iconst 0, 1) := by decide +kernel
theorem dX1_valueRefusal_184 : decode cX1_valueRefusal 184 = .ok (.invokevirtual 97, 3) := by decide +kernel
theorem dX1_valueRefusal_187 : decode cX1_valueRefusal 187 = .ok (.bipush 8, 2) := by decide +kernel
theorem dX1_valueRefusal_189 : decode cX1_valueRefusal 189 = .ok (.ishl, 1) := by decide +kernel
theorem dX1_valueRefusal_190 : decode cX1_valueRefusal 190 = .ok (.aload_n 3, 1) := by decide +kernel
theorem dX1_valueRefusal_191 : decode cX1_valueRefusal 191 = .ok (.iconst 1, 1) := by decide +kernel
theorem dX1_valueRefusal_192 : decode cX1_valueRefusal 192 = .ok (.invokevirtual 97, 3) := by decide +kernel
theorem dX1_valueRefusal_195 : decode cX1_valueRefusal 195 = .ok (.ior, 1) := by decide +kernel
theorem dX1_valueRefusal_196 : decode cX1_valueRefusal 196 = .ok (.aload_n 0, 1) := by decide +kernel
theorem dX1_valueRefusal_197 : decode cX1_valueRefusal 197 = .ok (.getfield 40, 3) := by decide +kernel
theorem dX1_valueRefusal_200 : decode cX1_valueRefusal 200 = .ok (.aload_n 0, 1) := by decide +kernel
theorem dX1_valueRefusal_201 : decode cX1_valueRefusal 201 = .ok (.getfield 32, 3) := by decide +kernel
theorem dX1_valueRefusal_204 : decode cX1_valueRefusal 204 = .ok (.imul, 1) := by decide +kernel
theorem dX1_valueRefusal_205 : decode cX1_valueRefusal 205 = .ok (.invokestatic 183, 3) := by decide +kernel
theorem dX1_valueRefusal_208 : decode cX1_valueRefusal 208 = .ok (.istore 4, 2) := by decide +kernel
theorem dX1_valueRefusal_210 : decode cX1_valueRefusal 210 = .ok (.goto 22, 3) := by decide +kernel
theorem dX1_valueRefusal_213 : decode cX1_valueRefusal 213 = .ok (.aload_n 3, 1) := by decide +kernel
theorem dX1_valueRefusal_214 : decode cX1_valueRefusal 214 = .ok (.iconst 0, 1) := by decide +kernel
theorem dX1_valueRefusal_215 : decode cX1_valueRefusal 215 = .ok (.invokevirtual 97, 3) := by decide +kernel
theorem dX1_valueRefusal_218 : decode cX1_valueRefusal 218 = .ok (.iconst 1, 1) := by decide +kernel
theorem dX1_valueRefusal_219 : decode cX1_valueRefusal 219 = .ok (.if_icmp .gt 7, 3) := by decide +kernel
theorem dX1_valueRefusal_222 : decode cX1_valueRefusal 222 = .ok (.iconst 1, 1) := by decide +kernel
theorem dX1_valueRefusal_223 : decode cX1_valueRefusal 223 = .ok (.goto 4, 3) := by decide +kernel
theorem dX1_valueRefusal_226 : decode cX1_valueRefusal 226 = .ok (.iconst 0, 1) := by decide +kernel
theorem dX1_valueRefusal_227 : decode cX1_valueRefusal 227 = .ok (.istore 4, 2) := by decide +kernel
theorem dX1_valueRefusal_229 : decode cX1_valueRefusal 229 = .ok (.goto 3, 3) := by decide +kernel
theorem dX1_valueRefusal_232 : decode cX1_valueRefusal 232 = .ok (.iload 4, 2) := by decide +kernel
theorem dX1_valueRefusal_234 : decode cX1_valueRefusal 234 = .ok (.ifCond .eq 7, 3) := by decide +kernel
theorem dX1_valueRefusal_237 : decode cX1_valueRefusal 237 = .ok (.iconst (-1), 1) := by decide +kernel
theorem dX1_valueRefusal_238 : decode cX1_valueRefusal 238 = .ok (.goto 5, 3) := by decide +kernel
theorem dX1_valueRefusal_241 : decode cX1_valueRefusal 241 = .ok (.bipush 6, 2) := by decide +kernel
theorem dX1_valueRefusal_243 : decode cX1_valueRefusal 243 = .ok (.ireturn, 1) := by decide +kernel
theorem dX1_obey_0 : decode cX1_obey 0 = .ok (.aload_n 1, 1) := by decide +kernel
theorem dX1_obey_1 : decode cX1_obey 1 = .ok (.getfield 125, 3) := by decide +kernel
theorem dX1_obey_4 : decode cX1_obey 4 = .ok (.astore 5, 2) := by decide +kernel
theorem dX1_obey_6 : decode cX1_obey 6 = .ok (.aload_n 1, 1) := by decide +kernel
theorem dX1_obey_7 : decode cX1_obey 7 = .ok (.getfield 128, 3) := by decide +kernel
theorem dX1_obey_10 : decode cX1_obey 10 = .ok (.lookupswitch 176 #[(130, 42), (224, 118), (240, 131), (4096, 154)], 42) := by decide +kernel
theorem dX1_obey_52 : decode cX1_obey 52 = .ok (.iload 4, 2) := by decide +kernel
theorem dX1_obey_54 : decode cX1_obey 54 = .ok (.iconst 3, 1) := by decide +kernel
theorem dX1_obey_55 : decode cX1_obey 55 = .ok (.irem, 1) := by decide +kernel
theorem dX1_obey_56 : decode cX1_obey 56 = .ok (.istore 6, 2) := by decide +kernel
theorem dX1_obey_58 : decode cX1_obey 58 = .ok (.iload_n 3, 1) := by decide +kernel
theorem dX1_obey_59 : decode cX1_obey 59 = .ok (.ifCond .eq 15, 3) := by decide +kernel
theorem dX1_obey_62 : decode cX1_obey 62 = .ok (.aload_n 0, 1) := by decide +kernel
theorem dX1_obey_63 : decode cX1_obey 63 = .ok (.getfield 20, 3) := by decide +kernel
theorem dX1_obey_66 : decode cX1_obey 66 = .ok (.aload 5, 2) := by decide +kernel
theorem dX1_obey_68 : decode cX1_obey 68 = .ok (.invokevirtual 84, 3) := by decide +kernel
theorem dX1_obey_71 : decode cX1_obey 71 = .ok (.goto 115, 3) := by decide +kernel
theorem dX1_obey_74 : decode cX1_obey 74 = .ok (.iload 6, 2) := by decide +kernel
theorem dX1_obey_76 : decode cX1_obey 76 = .ok (.ifCond .lt 110, 3) := by decide +kernel
theorem dX1_obey_79 : decode cX1_obey 79 = .ok (.aload_n 0, 1) := by decide +kernel
theorem dX1_obey_80 : decode cX1_obey 80 = .ok (.getfield 24, 3) := by decide +kernel
theorem dX1_obey_83 : decode cX1_obey 83 = .ok (.iload 6, 2) := by decide +kernel
theorem dX1_obey_85 : decode cX1_obey 85 = .ok (.aaload, 1) := by decide +kernel
theorem dX1_obey_86 : decode cX1_obey 86 = .ok (.aload 5, 2) := by decide +kernel
theorem dX1_obey_88 : decode cX1_obey 88 = .ok (.invokevirtual 84, 3) := by decide +kernel
theorem dX1_obey_91 : decode cX1_obey 91 = .ok (.aload_n 0, 1) := by decide +kernel
theorem dX1_obey_92 : decode cX1_obey 92 = .ok (.getfield 28, 3) := by decide +kernel
theorem dX1_obey_95 : decode cX1_obey 95 = .ok (.iload 6, 2) := by decide +kernel
theorem dX1_obey_97 : decode cX1_obey 97 = .ok (.iconst 1, 1) := by decide +kernel
theorem dX1_obey_98 : decode cX1_obey 98 = .ok (.bastore, 1) := by decide +kernel
theorem dX1_obey_99 : decode cX1_obey 99 = .ok (.aload_n 0, 1) := by decide +kernel
theorem dX1_obey_100 : decode cX1_obey 100 = .ok (.dup, 1) := by decide +kernel
theorem dX1_obey_101 : decode cX1_obey 101 = .ok (.getfield 88, 3) := by decide +kernel
theorem dX1_obey_104 : decode cX1_obey 104 = .ok (.iconst 1, 1) := by decide +kernel
theorem dX1_obey_105 : decode cX1_obey 105 = .ok (.iadd, 1) := by decide +kernel
theorem dX1_obey_106 : decode cX1_obey 106 = .ok (.putfield 88, 3) := by decide +kernel
theorem dX1_obey_109 : decode cX1_obey 109 = .ok (.aload_n 2, 1) := by decide +kernel
theorem dX1_obey_110 : decode cX1_obey 110 = .ok (.iconst 1, 1) := by decide +kernel
theorem dX1_obey_111 : decode cX1_obey 111 = .ok (.putfield 187, 3) := by decide +kernel
theorem dX1_obey_114 : decode cX1_obey 114 = .ok (.aload_n 2, 1) := by decide +kernel
theorem dX1_obey_115 : decode cX1_obey 115 = .ok (.getfield 125, 3) := by decide +kernel
theorem dX1_obey_118 : decode cX1_obey 118 = .ok (.ldc2_w 190, 3) := by decide +kernel
theorem dX1_obey_121 : decode cX1_obey 121 = .ok (.iconst 2, 1) := by decide +kernel
theorem dX1_obey_122 : decode cX1_obey 122 = .ok (.invokevirtual 145, 3) := by decide +kernel
theorem dX1_obey_125 : decode cX1_obey 125 = .ok (.goto 61, 3) := by decide +kernel
theorem dX1_obey_128 : decode cX1_obey 128 = .ok (.aload_n 0, 1) := by decide +kernel
theorem dX1_obey_129 : decode cX1_obey 129 = .ok (.aload 5, 2) := by decide +kernel
theorem dX1_obey_131 : decode cX1_obey 131 = .ok (.iconst 0, 1) := by decide +kernel
theorem dX1_obey_132 : decode cX1_obey 132 = .ok (.invokevirtual 97, 3) := by decide +kernel
theorem dX1_obey_135 : decode cX1_obey 135 = .ok (.putfield 32, 3) := by decide +kernel
theorem dX1_obey_138 : decode cX1_obey 138 = .ok (.goto 48, 3) := by decide +kernel
theorem dX1_obey_141 : decode cX1_obey 141 = .ok (.aload_n 0, 1) := by decide +kernel
theorem dX1_obey_142 : decode cX1_obey 142 = .ok (.aload 5, 2) := by decide +kernel
theorem dX1_obey_144 : decode cX1_obey 144 = .ok (.iconst 0, 1) := by decide +kernel
theorem dX1_obey_145 : decode cX1_obey 145 = .ok (.invokevirtual 97, 3) := by decide +kernel
theorem dX1_obey_148 : decode cX1_obey 148 = .ok (.bipush 8, 2) := by decide +kernel
theorem dX1_obey_150 : decode cX1_obey 150 = .ok (.ishl, 1) := by decide +kernel
theorem dX1_obey_151 : decode cX1_obey 151 = .ok (.aload 5, 2) := by decide +kernel
theorem dX1_obey_153 : decode cX1_obey 153 = .ok (.iconst 1, 1) := by decide +kernel
theorem dX1_obey_154 : decode cX1_obey 154 = .ok (.invokevirtual 97, 3) := by decide +kernel
theorem dX1_obey_157 : decode cX1_obey 157 = .ok (.ior, 1) := by decide +kernel
theorem dX1_obey_158 : decode cX1_obey 158 = .ok (.putfield 46, 3) := by decide +kernel
theorem dX1_obey_161 : decode cX1_obey 161 = .ok (.goto 25, 3) := by decide +kernel
theorem dX1_obey_164 : decode cX1_obey 164 = .ok (.aload_n 0, 1) := by decide +kernel
theorem dX1_obey_165 : decode cX1_obey 165 = .ok (.aload 5, 2) := by decide +kernel
theorem dX1_obey_167 : decode cX1_obey 167 = .ok (.iconst 0, 1) := by decide +kernel
theorem dX1_obey_168 : decode cX1_obey 168 = .ok (.invokevirtual 97, 3) := by decide +kernel
theorem dX1_obey_171 : decode cX1_obey 171 = .ok (.iconst 1, 1) := by decide +kernel
theorem dX1_obey_172 : decode cX1_obey 172 = .ok (.if_icmp .ne 7, 3) := by decide +kernel
theorem dX1_obey_175 : decode cX1_obey 175 = .ok (.iconst 1, 1) := by decide +kernel
theorem dX1_obey_176 : decode cX1_obey 176 = .ok (.goto 4, 3) := by decide +kernel
theorem dX1_obey_179 : decode cX1_obey 179 = .ok (.iconst 0, 1) := by decide +kernel
theorem dX1_obey_180 : decode cX1_obey 180 = .ok (.putfield 68, 3) := by decide +kernel
theorem dX1_obey_183 : decode cX1_obey 183 = .ok (.goto 3, 3) := by decide +kernel
theorem dX1_obey_186 : decode cX1_obey 186 = .ok (.return_, 1) := by decide +kernel
theorem dX1_tell_0 : decode cX1_tell 0 = .ok (.aload_n 2, 1) := by decide +kernel
theorem dX1_tell_1 : decode cX1_tell 1 = .ok (.getfield 125, 3) := by decide +kernel
theorem dX1_tell_4 : decode cX1_tell 4 = .ok (.astore_n 3, 1) := by decide +kernel
theorem dX1_tell_5 : decode cX1_tell 5 = .ok (.iload_n 1, 1) := by decide +kernel
theorem dX1_tell_6 : decode cX1_tell 6 = .ok (.lookupswitch 344 #[(32, 311), (80, 74), (96, 107), (128, 172), (130, 254), (224, 265), (240, 284), (4096, 297)], 74) := by decide +kernel
theorem dX1_tell_80 : decode cX1_tell 80 = .ok (.iconst 0, 1) := by decide +kernel
theorem dX1_tell_81 : decode cX1_tell 81 = .ok (.istore 4, 2) := by decide +kernel
theorem dX1_tell_83 : decode cX1_tell 83 = .ok (.iload 4, 2) := by decide +kernel
theorem dX1_tell_85 : decode cX1_tell 85 = .ok (.getstatic 180, 3) := by decide +kernel
theorem dX1_tell_88 : decode cX1_tell 88 = .ok (.arraylength, 1) := by decide +kernel
theorem dX1_tell_89 : decode cX1_tell 89 = .ok (.if_icmp .ge 21, 3) := by decide +kernel
theorem dX1_tell_92 : decode cX1_tell 92 = .ok (.aload_n 3, 1) := by decide +kernel
theorem dX1_tell_93 : decode cX1_tell 93 = .ok (.getstatic 180, 3) := by decide +kernel
theorem dX1_tell_96 : decode cX1_tell 96 = .ok (.iload 4, 2) := by decide +kernel
theorem dX1_tell_98 : decode cX1_tell 98 = .ok (.iaload, 1) := by decide +kernel
theorem dX1_tell_99 : decode cX1_tell 99 = .ok (.i2l, 1) := by decide +kernel
theorem dX1_tell_100 : decode cX1_tell 100 = .ok (.iconst 2, 1) := by decide +kernel
theorem dX1_tell_101 : decode cX1_tell 101 = .ok (.invokevirtual 145, 3) := by decide +kernel
theorem dX1_tell_104 : decode cX1_tell 104 = .ok (.iinc 4 1, 3) := by decide +kernel
theorem dX1_tell_107 : decode cX1_tell 107 = .ok (.goto (-24), 3) := by decide +kernel
theorem dX1_tell_110 : decode cX1_tell 110 = .ok (.goto 240, 3) := by decide +kernel
theorem dX1_tell_113 : decode cX1_tell 113 = .ok (.aload_n 3, 1) := by decide +kernel
theorem dX1_tell_114 : decode cX1_tell 114 = .ok (.aload_n 0, 1) := by decide +kernel
theorem dX1_tell_115 : decode cX1_tell 115 = .ok (.getfield 36, 3) := by decide +kernel
theorem dX1_tell_118 : decode cX1_tell 118 = .ok (.bipush 6, 2) := by decide +kernel
theorem dX1_tell_120 : decode cX1_tell 120 = .ok (.invokevirtual 145, 3) := by decide +kernel
theorem dX1_tell_123 : decode cX1_tell 123 = .ok (.aload_n 3, 1) := by decide +kernel
theorem dX1_tell_124 : decode cX1_tell 124 = .ok (.aload_n 0, 1) := by decide +kernel
theorem dX1_tell_125 : decode cX1_tell 125 = .ok (.invokevirtual 56, 3) := by decide +kernel
theorem dX1_tell_128 : decode cX1_tell 128 = .ok (.i2l, 1) := by decide +kernel
theorem dX1_tell_129 : decode cX1_tell 129 = .ok (.iconst 2, 1) := by decide +kernel
theorem dX1_tell_130 : decode cX1_tell 130 = .ok (.invokevirtual 145, 3) := by decide +kernel
theorem dX1_tell_133 : decode cX1_tell 133 = .ok (.aload_n 3, 1) := by decide +kernel
theorem dX1_tell_134 : decode cX1_tell 134 = .ok (.aload_n 0, 1) := by decide +kernel
theorem dX1_tell_135 : decode cX1_tell 135 = .ok (.getfield 32, 3) := by decide +kernel
theorem dX1_tell_138 : decode cX1_tell 138 = .ok (.invokevirtual 192, 3) := by decide +kernel
theorem dX1_tell_141 : decode cX1_tell 141 = .ok (.aload_n 3, 1) := by decide +kernel
theorem dX1_tell_142 : decode cX1_tell 142 = .ok (.aload_n 0, 1) := by decide +kernel
theorem dX1_tell_143 : decode cX1_tell 143 = .ok (.getfield 43, 3) := by decide +kernel
theorem dX1_tell_146 : decode cX1_tell 146 = .ok (.invokevirtual 192, 3) := by decide +kernel
theorem dX1_tell_149 : decode cX1_tell 149 = .ok (.aload_n 3, 1) := by decide +kernel
theorem dX1_tell_150 : decode cX1_tell 150 = .ok (.aload_n 0, 1) := by decide +kernel
theorem dX1_tell_151 : decode cX1_tell 151 = .ok (.getfield 46, 3) := by decide +kernel
theorem dX1_tell_154 : decode cX1_tell 154 = .ok (.i2l, 1) := by decide +kernel
theorem dX1_tell_155 : decode cX1_tell 155 = .ok (.iconst 2, 1) := by decide +kernel
theorem dX1_tell_156 : decode cX1_tell 156 = .ok (.invokevirtual 145, 3) := by decide +kernel
theorem dX1_tell_159 : decode cX1_tell 159 = .ok (.aload_n 3, 1) := by decide +kernel
theorem dX1_tell_160 : decode cX1_tell 160 = .ok (.lconst 0, 1) := by decide +kernel
theorem dX1_tell_161 : decode cX1_tell 161 = .ok (.iconst 2, 1) := by decide +kernel
theorem dX1_tell_162 : decode cX1_tell 162 = .ok (.invokevirtual 145, 3) := by decide +kernel
theorem dX1_tell_165 : decode cX1_tell 165 = .ok (.aload_n 3, 1) := by decide +kernel
theorem dX1_tell_166 : decode cX1_tell 166 = .ok (.aload_n 0, 1) := by decide +kernel
theorem dX1_tell_167 : decode cX1_tell 167 = .ok (.getfield 81, 3) := by decide +kernel
theorem dX1_tell_170 : decode cX1_tell 170 = .ok (.i2l, 1) := by decide +kernel
theorem dX1_tell_171 : decode cX1_tell 171 = .ok (.iconst 2, 1) := by decide +kernel
theorem dX1_tell_172 : decode cX1_tell 172 = .ok (.invokevirtual 145, 3) := by decide +kernel
theorem dX1_tell_175 : decode cX1_tell 175 = .ok (.goto 175, 3) := by decide +kernel
theorem dX1_tell_178 : decode cX1_tell 178 = .ok (.aload_n 3, 1) := by decide +kernel
theorem dX1_tell_179 : decode cX1_tell 179 = .ok (.bipush 76, 2) := by decide +kernel
theorem dX1_tell_181 : decode cX1_tell 181 = .ok (.invokevirtual 192, 3) := by decide +kernel
theorem dX1_tell_184 : decode cX1_tell 184 = .ok (.aload_n 3, 1) := by decide +kernel
theorem dX1_tell_185 : decode cX1_tell 185 = .ok (.bipush 65, 2) := by decide +kernel
theorem dX1_tell_187 : decode cX1_tell 187 = .ok (.invokevirtual 192, 3) := by decide +kernel
theorem dX1_tell_190 : decode cX1_tell 190 = .ok (.aload_n 3, 1) := by decide +kernel
theorem dX1_tell_191 : decode cX1_tell 191 = .ok (.bipush 77, 2) := by decide +kernel
theorem dX1_tell_193 : decode cX1_tell 193 = .ok (.invokevirtual 192, 3) := by decide +kernel
theorem dX1_tell_196 : decode cX1_tell 196 = .ok (.aload_n 3, 1) := by decide +kernel
theorem dX1_tell_197 : decode cX1_tell 197 = .ok (.bipush 80, 2) := by decide +kernel
theorem dX1_tell_199 : decode cX1_tell 199 = .ok (.invokevirtual 192, 3) := by decide +kernel
theorem dX1_tell_202 : decode cX1_tell 202 = .ok (.bipush 28, 2) := by decide +kernel
theorem dX1_tell_204 : decode cX1_tell 204 = .ok (.istore 4, 2) := by decide +kernel
theorem dX1_tell_206 : decode cX1_tell 206 = .ok (.iload 4, 2) := by decide +kernel
theorem dX1_tell_208 : decode cX1_tell 208 = .ok (.ifCond .lt 49, 3) := by decide +kernel
theorem dX1_tell_211 : decode cX1_tell 211 = .ok (.aload_n 0, 1) := by decide +kernel
theorem dX1_tell_212 : decode cX1_tell 212 = .ok (.getfield 36, 3) := by decide +kernel
theorem dX1_tell_215 : decode cX1_tell 215 = .ok (.iload 4, 2) := by decide +kernel
theorem dX1_tell_217 : decode cX1_tell 217 = .ok (.lushr, 1) := by decide +kernel
theorem dX1_tell_218 : decode cX1_tell 218 = .ok (.l2i, 1) := by decide +kernel
theorem dX1_tell_219 : decode cX1_tell 219 = .ok (.bipush 15, 2) := by decide +kernel
theorem dX1_tell_221 : decode cX1_tell 221 = .ok (.iand, 1) := by decide +kernel
theorem dX1_tell_222 : decode cX1_tell 222 = .ok (.istore 5, 2) := by decide +kernel
theorem dX1_tell_224 : decode cX1_tell 224 = .ok (.aload_n 3, 1) := by decide +kernel
theorem dX1_tell_225 : decode cX1_tell 225 = .ok (.iload 5, 2) := by decide +kernel
theorem dX1_tell_227 : decode cX1_tell 227 = .ok (.bipush 10, 2) := by decide +kernel
theorem dX1_tell_229 : decode cX1_tell 229 = .ok (.if_icmp .ge 11, 3) := by decide +kernel
theorem dX1_tell_232 : decode cX1_tell 232 = .ok (.bipush 48, 2) := by decide +kernel
theorem dX1_tell_234 : decode cX1_tell 234 = .ok (.iload 5, 2) := by decide +kernel
theorem dX1_tell_236 : decode cX1_tell 236 = .ok (.iadd, 1) := by decide +kernel
theorem dX1_tell_237 : decode cX1_tell 237 = .ok (.goto 11, 3) := by decide +kernel
theorem dX1_tell_240 : decode cX1_tell 240 = .ok (.bipush 65, 2) := by decide +kernel
theorem dX1_tell_242 : decode cX1_tell 242 = .ok (.iload 5, 2) := by decide +kernel
theorem dX1_tell_244 : decode cX1_tell 244 = .ok (.iadd, 1) := by decide +kernel
theorem dX1_tell_245 : decode cX1_tell 245 = .ok (.bipush 10, 2) := by decide +kernel
theorem dX1_tell_247 : decode cX1_tell 247 = .ok (.isub, 1) := by decide +kernel
theorem dX1_tell_248 : decode cX1_tell 248 = .ok (.invokevirtual 192, 3) := by decide +kernel
theorem dX1_tell_251 : decode cX1_tell 251 = .ok (.iinc 4 (-4), 3) := by decide +kernel
theorem dX1_tell_254 : decode cX1_tell 254 = .ok (.goto (-48), 3) := by decide +kernel
theorem dX1_tell_257 : decode cX1_tell 257 = .ok (.goto 93, 3) := by decide +kernel
theorem dX1_tell_260 : decode cX1_tell 260 = .ok (.aload_n 3, 1) := by decide +kernel
theorem dX1_tell_261 : decode cX1_tell 261 = .ok (.aload_n 0, 1) := by decide +kernel
theorem dX1_tell_262 : decode cX1_tell 262 = .ok (.getfield 20, 3) := by decide +kernel
theorem dX1_tell_265 : decode cX1_tell 265 = .ok (.invokevirtual 84, 3) := by decide +kernel
theorem dX1_tell_268 : decode cX1_tell 268 = .ok (.goto 82, 3) := by decide +kernel
theorem dX1_tell_271 : decode cX1_tell 271 = .ok (.aload_n 3, 1) := by decide +kernel
theorem dX1_tell_272 : decode cX1_tell 272 = .ok (.aload_n 0, 1) := by decide +kernel
theorem dX1_tell_273 : decode cX1_tell 273 = .ok (.getfield 32, 3) := by decide +kernel
theorem dX1_tell_276 : decode cX1_tell 276 = .ok (.invokevirtual 192, 3) := by decide +kernel
theorem dX1_tell_279 : decode cX1_tell 279 = .ok (.aload_n 3, 1) := by decide +kernel
theorem dX1_tell_280 : decode cX1_tell 280 = .ok (.aload_n 0, 1) := by decide +kernel
theorem dX1_tell_281 : decode cX1_tell 281 = .ok (.getfield 43, 3) := by decide +kernel
theorem dX1_tell_284 : decode cX1_tell 284 = .ok (.invokevirtual 192, 3) := by decide +kernel
theorem dX1_tell_287 : decode cX1_tell 287 = .ok (.goto 63, 3) := by decide +kernel
theorem dX1_tell_290 : decode cX1_tell 290 = .ok (.aload_n 3, 1) := by decide +kernel
theorem dX1_tell_291 : decode cX1_tell 291 = .ok (.aload_n 0, 1) := by decide +kernel
theorem dX1_tell_292 : decode cX1_tell 292 = .ok (.getfield 46, 3) := by decide +kernel
theorem dX1_tell_295 : decode cX1_tell 295 = .ok (.i2l, 1) := by decide +kernel
theorem dX1_tell_296 : decode cX1_tell 296 = .ok (.iconst 2, 1) := by decide +kernel
theorem dX1_tell_297 : decode cX1_tell 297 = .ok (.invokevirtual 145, 3) := by decide +kernel
theorem dX1_tell_300 : decode cX1_tell 300 = .ok (.goto 50, 3) := by decide +kernel
theorem dX1_tell_303 : decode cX1_tell 303 = .ok (.aload_n 3, 1) := by decide +kernel
theorem dX1_tell_304 : decode cX1_tell 304 = .ok (.aload_n 0, 1) := by decide +kernel
theorem dX1_tell_305 : decode cX1_tell 305 = .ok (.getfield 68, 3) := by decide +kernel
theorem dX1_tell_308 : decode cX1_tell 308 = .ok (.invokestatic 64, 3) := by decide +kernel
theorem dX1_tell_311 : decode cX1_tell 311 = .ok (.invokevirtual 192, 3) := by decide +kernel
theorem dX1_tell_314 : decode cX1_tell 314 = .ok (.goto 36, 3) := by decide +kernel
theorem dX1_tell_317 : decode cX1_tell 317 = .ok (.aload_n 0, 1) := by decide +kernel
theorem dX1_tell_318 : decode cX1_tell 318 = .ok (.getfield 75, 3) := by decide +kernel
theorem dX1_tell_321 : decode cX1_tell 321 = .ok (.ifCond .le 29, 3) := by decide +kernel
theorem dX1_tell_324 : decode cX1_tell 324 = .ok (.aload_n 0, 1) := by decide +kernel
theorem dX1_tell_325 : decode cX1_tell 325 = .ok (.dup, 1) := by decide +kernel
theorem dX1_tell_326 : decode cX1_tell 326 = .ok (.getfield 75, 3) := by decide +kernel
theorem dX1_tell_329 : decode cX1_tell 329 = .ok (.iconst 1, 1) := by decide +kernel
theorem dX1_tell_330 : decode cX1_tell 330 = .ok (.isub, 1) := by decide +kernel
theorem dX1_tell_331 : decode cX1_tell 331 = .ok (.putfield 75, 3) := by decide +kernel
theorem dX1_tell_334 : decode cX1_tell 334 = .ok (.aload_n 2, 1) := by decide +kernel
theorem dX1_tell_335 : decode cX1_tell 335 = .ok (.sipush 130, 3) := by decide +kernel
theorem dX1_tell_338 : decode cX1_tell 338 = .ok (.putfield 128, 3) := by decide +kernel
theorem dX1_tell_341 : decode cX1_tell 341 = .ok (.aload_n 2, 1) := by decide +kernel
theorem dX1_tell_342 : decode cX1_tell 342 = .ok (.bipush 49, 2) := by decide +kernel
theorem dX1_tell_344 : decode cX1_tell 344 = .ok (.putfield 108, 3) := by decide +kernel
theorem dX1_tell_347 : decode cX1_tell 347 = .ok (.goto 3, 3) := by decide +kernel
theorem dX1_tell_350 : decode cX1_tell 350 = .ok (.return_, 1) := by decide +kernel
theorem dX2_init_0 : decode cX2_init 0 = .ok (.aload_n 0, 1) := by decide +kernel
theorem dX2_init_1 : decode cX2_init 1 = .ok (.invokespecial 5, 3) := by decide +kernel
theorem dX2_init_4 : decode cX2_init 4 = .ok (.aload_n 0, 1) := by decide +kernel
theorem dX2_init_5 : decode cX2_init 5 = .ok (.new 11, 3) := by decide +kernel
theorem dX2_init_8 : decode cX2_init 8 = .ok (.dup, 1) := by decide +kernel
theorem dX2_init_9 : decode cX2_init 9 = .ok (.sipush 231, 3) := by decide +kernel
theorem dX2_init_12 : decode cX2_init 12 = .ok (.invokespecial 13, 3) := by decide +kernel
theorem dX2_init_15 : decode cX2_init 15 = .ok (.putfield 16, 3) := by decide +kernel
theorem dX2_init_18 : decode cX2_init 18 = .ok (.return_, 1) := by decide +kernel
theorem dX2_isCall_0 : decode cX2_isCall 0 = .ok (.aload_n 0, 1) := by decide +kernel
theorem dX2_isCall_1 : decode cX2_isCall 1 = .ok (.getfield 20, 3) := by decide +kernel
theorem dX2_isCall_4 : decode cX2_isCall 4 = .ok (.invokestatic 24, 3) := by decide +kernel
theorem dX2_isCall_7 : decode cX2_isCall 7 = .ok (.ldc2_w 28, 3) := by decide +kernel
theorem dX2_isCall_10 : decode cX2_isCall 10 = .ok (.lcmp, 1) := by decide +kernel
theorem dX2_isCall_11 : decode cX2_isCall 11 = .ok (.ifCond .ne 7, 3) := by decide +kernel
theorem dX2_isCall_14 : decode cX2_isCall 14 = .ok (.iconst 1, 1) := by decide +kernel
theorem dX2_isCall_15 : decode cX2_isCall 15 = .ok (.goto 4, 3) := by decide +kernel
theorem dX2_isCall_18 : decode cX2_isCall 18 = .ok (.iconst 0, 1) := by decide +kernel
theorem dX2_isCall_19 : decode cX2_isCall 19 = .ok (.ireturn, 1) := by decide +kernel
theorem dX2_readFrom_0 : decode cX2_readFrom 0 = .ok (.aload_n 1, 1) := by decide +kernel
theorem dX2_readFrom_1 : decode cX2_readFrom 1 = .ok (.iconst 2, 1) := by decide +kernel
theorem dX2_readFrom_2 : decode cX2_readFrom 2 = .ok (.invokevirtual 30, 3) := by decide +kernel
theorem dX2_readFrom_5 : decode cX2_readFrom 5 = .ok (.istore_n 2, 1) := by decide +kernel
theorem dX2_readFrom_6 : decode cX2_readFrom 6 = .ok (.iload_n 2, 1) := by decide +kernel
theorem dX2_readFrom_7 : decode cX2_readFrom 7 = .ok (.bipush 24, 2) := by decide +kernel
theorem dX2_readFrom_9 : decode cX2_readFrom 9 = .ok (.if_icmp .lt 13, 3) := by decide +kernel
theorem dX2_readFrom_12 : decode cX2_readFrom 12 = .ok (.aload_n 1, 1) := by decide +kernel
theorem dX2_readFrom_13 : decode cX2_readFrom 13 = .ok (.invokevirtual 34, 3) := by decide +kernel
theorem dX2_readFrom_16 : decode cX2_readFrom 16 = .ok (.iload_n 2, 1) := by decide +kernel
theorem dX2_readFrom_17 : decode cX2_readFrom 17 = .ok (.iconst 2, 1) := by decide +kernel
theorem dX2_readFrom_18 : decode cX2_readFrom 18 = .ok (.iadd, 1) := by decide +kernel
theorem dX2_readFrom_19 : decode cX2_readFrom 19 = .ok (.if_icmp .eq 5, 3) := by decide +kernel
theorem dX2_readFrom_22 : decode cX2_readFrom 22 = .ok (.iconst 0, 1) := by decide +kernel
theorem dX2_readFrom_23 : decode cX2_readFrom 23 = .ok (.ireturn, 1) := by decide +kernel
theorem dX2_readFrom_24 : decode cX2_readFrom 24 = .ok (.aload_n 1, 1) := by decide +kernel
theorem dX2_readFrom_25 : decode cX2_readFrom 25 = .ok (.iconst 0, 1) := by decide +kernel
theorem dX2_readFrom_26 : decode cX2_readFrom 26 = .ok (.invokevirtual 30, 3) := by decide +kernel
theorem dX2_readFrom_29 : decode cX2_readFrom 29 = .ok (.sipush 204, 3) := by decide +kernel
theorem dX2_readFrom_32 : decode cX2_readFrom 32 = .ok (.if_icmp .ne 25, 3) := by decide +kernel
theorem dX2_readFrom_35 : decode cX2_readFrom 35 = .ok (.aload_n 1, 1) := by decide +kernel
theorem dX2_readFrom_36 : decode cX2_readFrom 36 = .ok (.iconst 1, 1) := by decide +kernel
theorem dX2_readFrom_37 : decode cX2_readFrom 37 = .ok (.invokevirtual 30, 3) := by decide +kernel
theorem dX2_readFrom_40 : decode cX2_readFrom 40 = .ok (.iconst 1, 1) := by decide +kernel
theorem dX2_readFrom_41 : decode cX2_readFrom 41 = .ok (.if_icmp .ne 16, 3) := by decide +kernel
theorem dX2_readFrom_44 : decode cX2_readFrom 44 = .ok (.aload_n 1, 1) := by decide +kernel
theorem dX2_readFrom_45 : decode cX2_readFrom 45 = .ok (.bipush 23, 2) := by decide +kernel
theorem dX2_readFrom_47 : decode cX2_readFrom 47 = .ok (.invokevirtual 30, 3) := by decide +kernel
theorem dX2_readFrom_50 : decode cX2_readFrom 50 = .ok (.iload_n 2, 1) := by decide +kernel
theorem dX2_readFrom_51 : decode cX2_readFrom 51 = .ok (.bipush 24, 2) := by decide +kernel
theorem dX2_readFrom_53 : decode cX2_readFrom 53 = .ok (.isub, 1) := by decide +kernel
theorem dX2_readFrom_54 : decode cX2_readFrom 54 = .ok (.if_icmp .eq 5, 3) := by decide +kernel
theorem dX2_readFrom_57 : decode cX2_readFrom 57 = .ok (.iconst 0, 1) := by decide +kernel
theorem dX2_readFrom_58 : decode cX2_readFrom 58 = .ok (.ireturn, 1) := by decide +kernel
theorem dX2_readFrom_59 : decode cX2_readFrom 59 = .ok (.aload_n 1, 1) := by decide +kernel
theorem dX2_readFrom_60 : decode cX2_readFrom 60 = .ok (.iconst 0, 1) := by decide +kernel
theorem dX2_readFrom_61 : decode cX2_readFrom 61 = .ok (.iload_n 2, 1) := by decide +kernel
theorem dX2_readFrom_62 : decode cX2_readFrom 62 = .ok (.invokevirtual 38, 3) := by decide +kernel
theorem dX2_readFrom_65 : decode cX2_readFrom 65 = .ok (.i2l, 1) := by decide +kernel
theorem dX2_readFrom_66 : decode cX2_readFrom 66 = .ok (.aload_n 1, 1) := by decide +kernel
theorem dX2_readFrom_67 : decode cX2_readFrom 67 = .ok (.iload_n 2, 1) := by decide +kernel
theorem dX2_readFrom_68 : decode cX2_readFrom 68 = .ok (.iconst 2, 1) := by decide +kernel
theorem dX2_readFrom_69 : decode cX2_readFrom 69 = .ok (.invokevirtual 42, 3) := by decide +kernel
theorem dX2_readFrom_72 : decode cX2_readFrom 72 = .ok (.lcmp, 1) := by decide +kernel
theorem dX2_readFrom_73 : decode cX2_readFrom 73 = .ok (.ifCond .eq 5, 3) := by decide +kernel
theorem dX2_readFrom_76 : decode cX2_readFrom 76 = .ok (.iconst 0, 1) := by decide +kernel
theorem dX2_readFrom_77 : decode cX2_readFrom 77 = .ok (.ireturn, 1) := by decide +kernel
theorem dX2_readFrom_78 : decode cX2_readFrom 78 = .ok (.aload_n 0, 1) := by decide +kernel
theorem dX2_readFrom_79 : decode cX2_readFrom 79 = .ok (.aload_n 1, 1) := by decide +kernel
theorem dX2_readFrom_80 : decode cX2_readFrom 80 = .ok (.iconst 3, 1) := by decide +kernel
theorem dX2_readFrom_81 : decode cX2_readFrom 81 = .ok (.bipush 6, 2) := by decide +kernel
theorem dX2_readFrom_83 : decode cX2_readFrom 83 = .ok (.invokevirtual 42, 3) := by decide +kernel
theorem dX2_readFrom_86 : decode cX2_readFrom 86 = .ok (.putfield 20, 3) := by decide +kernel
theorem dX2_readFrom_89 : decode cX2_readFrom 89 = .ok (.aload_n 0, 1) := by decide +kernel
theorem dX2_readFrom_90 : decode cX2_readFrom 90 = .ok (.aload_n 1, 1) := by decide +kernel
theorem dX2_readFrom_91 : decode cX2_readFrom 91 = .ok (.bipush 9, 2) := by decide +kernel
theorem dX2_readFrom_93 : decode cX2_readFrom 93 = .ok (.bipush 6, 2) := by decide +kernel
theorem dX2_readFrom_95 : decode cX2_readFrom 95 = .ok (.invokevirtual 42, 3) := by decide +kernel
theorem dX2_readFrom_98 : decode cX2_readFrom 98 = .ok (.putfield 46, 3) := by decide +kernel
theorem dX2_readFrom_101 : decode cX2_readFrom 101 = .ok (.aload_n 0, 1) := by decide +kernel
theorem dX2_readFrom_102 : decode cX2_readFrom 102 = .ok (.aload_n 1, 1) := by decide +kernel
theorem dX2_readFrom_103 : decode cX2_readFrom 103 = .ok (.bipush 15, 2) := by decide +kernel
theorem dX2_readFrom_105 : decode cX2_readFrom 105 = .ok (.invokevirtual 30, 3) := by decide +kernel
theorem dX2_readFrom_108 : decode cX2_readFrom 108 = .ok (.putfield 49, 3) := by decide +kernel
theorem dX2_readFrom_111 : decode cX2_readFrom 111 = .ok (.aload_n 0, 1) := by decide +kernel
theorem dX2_readFrom_112 : decode cX2_readFrom 112 = .ok (.aload_n 1, 1) := by decide +kernel
theorem dX2_readFrom_113 : decode cX2_readFrom 113 = .ok (.bipush 16, 2) := by decide +kernel
theorem dX2_readFrom_115 : decode cX2_readFrom 115 = .ok (.invokevirtual 30, 3) := by decide +kernel
theorem dX2_readFrom_118 : decode cX2_readFrom 118 = .ok (.putfield 53, 3) := by decide +kernel
theorem dX2_readFrom_121 : decode cX2_readFrom 121 = .ok (.aload_n 0, 1) := by decide +kernel
theorem dX2_readFrom_122 : decode cX2_readFrom 122 = .ok (.aload_n 1, 1) := by decide +kernel
theorem dX2_readFrom_123 : decode cX2_readFrom 123 = .ok (.bipush 17, 2) := by decide +kernel
theorem dX2_readFrom_125 : decode cX2_readFrom 125 = .ok (.invokevirtual 30, 3) := by decide +kernel
theorem dX2_readFrom_128 : decode cX2_readFrom 128 = .ok (.putfield 56, 3) := by decide +kernel
theorem dX2_readFrom_131 : decode cX2_readFrom 131 = .ok (.aload_n 0, 1) := by decide +kernel
theorem dX2_readFrom_132 : decode cX2_readFrom 132 = .ok (.aload_n 1, 1) := by decide +kernel
theorem dX2_readFrom_133 : decode cX2_readFrom 133 = .ok (.bipush 18, 2) := by decide +kernel
theorem dX2_readFrom_135 : decode cX2_readFrom 135 = .ok (.iconst 2, 1) := by decide +kernel
theorem dX2_readFrom_136 : decode cX2_readFrom 136 = .ok (.invokevirtual 42, 3) := by decide +kernel
theorem dX2_readFrom_139 : decode cX2_readFrom 139 = .ok (.l2i, 1) := by decide +kernel
theorem dX2_readFrom_140 : decode cX2_readFrom 140 = .ok (.putfield 59, 3) := by decide +kernel
theorem dX2_readFrom_143 : decode cX2_readFrom 143 = .ok (.aload_n 0, 1) := by decide +kernel
theorem dX2_readFrom_144 : decode cX2_readFrom 144 = .ok (.aload_n 1, 1) := by decide +kernel
theorem dX2_readFrom_145 : decode cX2_readFrom 145 = .ok (.bipush 20, 2) := by decide +kernel
theorem dX2_readFrom_147 : decode cX2_readFrom 147 = .ok (.invokevirtual 30, 3) := by decide +kernel
theorem dX2_readFrom_150 : decode cX2_readFrom 150 = .ok (.putfield 62, 3) := by decide +kernel
theorem dX2_readFrom_153 : decode cX2_readFrom 153 = .ok (.aload_n 0, 1) := by decide +kernel
theorem dX2_readFrom_154 : decode cX2_readFrom 154 = .ok (.aload_n 1, 1) := by decide +kernel
theorem dX2_readFrom_155 : decode cX2_readFrom 155 = .ok (.bipush 21, 2) := by decide +kernel
theorem dX2_readFrom_157 : decode cX2_readFrom 157 = .ok (.iconst 2, 1) := by decide +kernel
theorem dX2_readFrom_158 : decode cX2_readFrom 158 = .ok (.invokevirtual 42, 3) := by decide +kernel
theorem dX2_readFrom_161 : decode cX2_readFrom 161 = .ok (.l2i, 1) := by decide +kernel
theorem dX2_readFrom_162 : decode cX2_readFrom 162 = .ok (.putfield 65, 3) := by decide +kernel
theorem dX2_readFrom_165 : decode cX2_readFrom 165 = .ok (.aload_n 0, 1) := by decide +kernel
theorem dX2_readFrom_166 : decode cX2_readFrom 166 = .ok (.getfield 16, 3) := by decide +kernel
theorem dX2_readFrom_169 : decode cX2_readFrom 169 = .ok (.iconst 0, 1) := by decide +kernel
theorem dX2_readFrom_170 : decode cX2_readFrom 170 = .ok (.invokevirtual 68, 3) := by decide +kernel
theorem dX2_readFrom_173 : decode cX2_readFrom 173 = .ok (.bipush 24, 2) := by decide +kernel
theorem dX2_readFrom_175 : decode cX2_readFrom 175 = .ok (.istore_n 3, 1) := by decide +kernel
theorem dX2_readFrom_176 : decode cX2_readFrom 176 = .ok (.iload_n 3, 1) := by decide +kernel
theorem dX2_readFrom_177 : decode cX2_readFrom 177 = .ok (.iload_n 2, 1) := by decide +kernel
theorem dX2_readFrom_178 : decode cX2_readFrom 178 = .ok (.if_icmp .ge 21, 3) := by decide +kernel
theorem dX2_readFrom_181 : decode cX2_readFrom 181 = .ok (.aload_n 0, 1) := by decide +kernel
theorem dX2_readFrom_182 : decode cX2_readFrom 182 = .ok (.getfield 16, 3) := by decide +kernel
theorem dX2_readFrom_185 : decode cX2_readFrom 185 = .ok (.aload_n 1, 1) := by decide +kernel
theorem dX2_readFrom_186 : decode cX2_readFrom 186 = .ok (.iload_n 3, 1) := by decide +kernel
theorem dX2_readFrom_187 : decode cX2_readFrom 187 = .ok (.invokevirtual 30, 3) := by decide +kernel
theorem dX2_readFrom_190 : decode cX2_readFrom 190 = .ok (.invokevirtual 71, 3) := by decide +kernel
theorem dX2_readFrom_193 : decode cX2_readFrom 193 = .ok (.iinc 3 1, 3) := by decide +kernel
theorem dX2_readFrom_196 : decode cX2_readFrom 196 = .ok (.goto (-20), 3) := by decide +kernel
theorem dX2_readFrom_199 : decode cX2_readFrom 199 = .ok (.iconst 1, 1) := by decide +kernel
theorem dX2_readFrom_200 : decode cX2_readFrom 200 = .ok (.ireturn, 1) := by decide +kernel
theorem dX2_writeTo_0 : decode cX2_writeTo 0 = .ok (.bipush 24, 2) := by decide +kernel
theorem dX2_writeTo_2 : decode cX2_writeTo 2 = .ok (.aload_n 0, 1) := by decide +kernel
theorem dX2_writeTo_3 : decode cX2_writeTo 3 = .ok (.getfield 16, 3) := by decide +kernel
theorem dX2_writeTo_6 : decode cX2_writeTo 6 = .ok (.invokevirtual 34, 3) := by decide +kernel
theorem dX2_writeTo_9 : decode cX2_writeTo 9 = .ok (.iadd, 1) := by decide +kernel
theorem dX2_writeTo_10 : decode cX2_writeTo 10 = .ok (.istore_n 2, 1) := by decide +kernel
theorem dX2_writeTo_11 : decode cX2_writeTo 11 = .ok (.aload_n 1, 1) := by decide +kernel
theorem dX2_writeTo_12 : decode cX2_writeTo 12 = .ok (.iconst 0, 1) := by decide +kernel
theorem dX2_writeTo_13 : decode cX2_writeTo 13 = .ok (.invokevirtual 68, 3) := by decide +kernel
theorem dX2_writeTo_16 : decode cX2_writeTo 16 = .ok (.aload_n 1, 1) := by decide +kernel
theorem dX2_writeTo_17 : decode cX2_writeTo 17 = .ok (.sipush 204, 3) := by decide +kernel
theorem dX2_writeTo_20 : decode cX2_writeTo 20 = .ok (.invokevirtual 71, 3) := by decide +kernel
theorem dX2_writeTo_23 : decode cX2_writeTo 23 = .ok (.aload_n 1, 1) := by decide +kernel
theorem dX2_writeTo_24 : decode cX2_writeTo 24 = .ok (.iconst 1, 1) := by decide +kernel
theorem dX2_writeTo_25 : decode cX2_writeTo 25 = .ok (.invokevirtual 71, 3) := by decide +kernel
theorem dX2_writeTo_28 : decode cX2_writeTo 28 = .ok (.aload_n 1, 1) := by decide +kernel
theorem dX2_writeTo_29 : decode cX2_writeTo 29 = .ok (.iload_n 2, 1) := by decide +kernel
theorem dX2_writeTo_30 : decode cX2_writeTo 30 = .ok (.invokevirtual 71, 3) := by decide +kernel
theorem dX2_writeTo_33 : decode cX2_writeTo 33 = .ok (.aload_n 1, 1) := by decide +kernel
theorem dX2_writeTo_34 : decode cX2_writeTo 34 = .ok (.aload_n 0, 1) := by decide +kernel
theorem dX2_writeTo_35 : decode cX2_writeTo 35 = .ok (.getfield 20, 3) := by decide +kernel
theorem dX2_writeTo_38 : decode cX2_writeTo 38 = .ok (.bipush 6, 2) := by decide +kernel
theorem dX2_writeTo_40 : decode cX2_writeTo 40 = .ok (.invokevirtual 74, 3) := by decide +kernel
theorem dX2_writeTo_43 : decode cX2_writeTo 43 = .ok (.aload_n 1, 1) := by decide +kernel
theorem dX2_writeTo_44 : decode cX2_writeTo 44 = .ok (.aload_n 0, 1) := by decide +kernel
theorem dX2_writeTo_45 : decode cX2_writeTo 45 = .ok (.getfield 46, 3) := by decide +kernel
theorem dX2_writeTo_48 : decode cX2_writeTo 48 = .ok (.bipush 6, 2) := by decide +kernel
theorem dX2_writeTo_50 : decode cX2_writeTo 50 = .ok (.invokevirtual 74, 3) := by decide +kernel
theorem dX2_writeTo_53 : decode cX2_writeTo 53 = .ok (.aload_n 1, 1) := by decide +kernel
theorem dX2_writeTo_54 : decode cX2_writeTo 54 = .ok (.aload_n 0, 1) := by decide +kernel
theorem dX2_writeTo_55 : decode cX2_writeTo 55 = .ok (.getfield 49, 3) := by decide +kernel
theorem dX2_writeTo_58 : decode cX2_writeTo 58 = .ok (.invokevirtual 71, 3) := by decide +kernel
theorem dX2_writeTo_61 : decode cX2_writeTo 61 = .ok (.aload_n 1, 1) := by decide +kernel
theorem dX2_writeTo_62 : decode cX2_writeTo 62 = .ok (.aload_n 0, 1) := by decide +kernel
theorem dX2_writeTo_63 : decode cX2_writeTo 63 = .ok (.getfield 53, 3) := by decide +kernel
theorem dX2_writeTo_66 : decode cX2_writeTo 66 = .ok (.invokevirtual 71, 3) := by decide +kernel
theorem dX2_writeTo_69 : decode cX2_writeTo 69 = .ok (.aload_n 1, 1) := by decide +kernel
theorem dX2_writeTo_70 : decode cX2_writeTo 70 = .ok (.aload_n 0, 1) := by decide +kernel
theorem dX2_writeTo_71 : decode cX2_writeTo 71 = .ok (.getfield 56, 3) := by decide +kernel
theorem dX2_writeTo_74 : decode cX2_writeTo 74 = .ok (.invokevirtual 71, 3) := by decide +kernel
theorem dX2_writeTo_77 : decode cX2_writeTo 77 = .ok (.aload_n 1, 1) := by decide +kernel
theorem dX2_writeTo_78 : decode cX2_writeTo 78 = .ok (.aload_n 0, 1) := by decide +kernel
theorem dX2_writeTo_79 : decode cX2_writeTo 79 = .ok (.getfield 59, 3) := by decide +kernel
theorem dX2_writeTo_82 : decode cX2_writeTo 82 = .ok (.i2l, 1) := by decide +kernel
theorem dX2_writeTo_83 : decode cX2_writeTo 83 = .ok (.iconst 2, 1) := by decide +kernel
theorem dX2_writeTo_84 : decode cX2_writeTo 84 = .ok (.invokevirtual 74, 3) := by decide +kernel
theorem dX2_writeTo_87 : decode cX2_writeTo 87 = .ok (.aload_n 1, 1) := by decide +kernel
theorem dX2_writeTo_88 : decode cX2_writeTo 88 = .ok (.aload_n 0, 1) := by decide +kernel
theorem dX2_writeTo_89 : decode cX2_writeTo 89 = .ok (.getfield 62, 3) := by decide +kernel
theorem dX2_writeTo_92 : decode cX2_writeTo 92 = .ok (.invokevirtual 71, 3) := by decide +kernel
theorem dX2_writeTo_95 : decode cX2_writeTo 95 = .ok (.aload_n 1, 1) := by decide +kernel
theorem dX2_writeTo_96 : decode cX2_writeTo 96 = .ok (.aload_n 0, 1) := by decide +kernel
theorem dX2_writeTo_97 : decode cX2_writeTo 97 = .ok (.getfield 65, 3) := by decide +kernel
theorem dX2_writeTo_100 : decode cX2_writeTo 100 = .ok (.i2l, 1) := by decide +kernel
theorem dX2_writeTo_101 : decode cX2_writeTo 101 = .ok (.iconst 2, 1) := by decide +kernel
theorem dX2_writeTo_102 : decode cX2_writeTo 102 = .ok (.invokevirtual 74, 3) := by decide +kernel
theorem dX2_writeTo_105 : decode cX2_writeTo 105 = .ok (.aload_n 1, 1) := by decide +kernel
theorem dX2_writeTo_106 : decode cX2_writeTo 106 = .ok (.aload_n 0, 1) := by decide +kernel
theorem dX2_writeTo_107 : decode cX2_writeTo 107 = .ok (.getfield 16, 3) := by decide +kernel
theorem dX2_writeTo_110 : decode cX2_writeTo 110 = .ok (.invokevirtual 34, 3) := by decide +kernel
theorem dX2_writeTo_113 : decode cX2_writeTo 113 = .ok (.invokevirtual 71, 3) := by decide +kernel
theorem dX2_writeTo_116 : decode cX2_writeTo 116 = .ok (.iconst 0, 1) := by decide +kernel
theorem dX2_writeTo_117 : decode cX2_writeTo 117 = .ok (.istore_n 3, 1) := by decide +kernel
theorem dX2_writeTo_118 : decode cX2_writeTo 118 = .ok (.iload_n 3, 1) := by decide +kernel
theorem dX2_writeTo_119 : decode cX2_writeTo 119 = .ok (.aload_n 0, 1) := by decide +kernel
theorem dX2_writeTo_120 : decode cX2_writeTo 120 = .ok (.getfield 16, 3) := by decide +kernel
theorem dX2_writeTo_123 : decode cX2_writeTo 123 = .ok (.invokevirtual 34, 3) := by decide +kernel
theorem dX2_writeTo_126 : decode cX2_writeTo 126 = .ok (.if_icmp .ge 21, 3) := by decide +kernel
theorem dX2_writeTo_129 : decode cX2_writeTo 129 = .ok (.aload_n 1, 1) := by decide +kernel
theorem dX2_writeTo_130 : decode cX2_writeTo 130 = .ok (.aload_n 0, 1) := by decide +kernel
theorem dX2_writeTo_131 : decode cX2_writeTo 131 = .ok (.getfield 16, 3) := by decide +kernel
theorem dX2_writeTo_134 : decode cX2_writeTo 134 = .ok (.iload_n 3, 1) := by decide +kernel
theorem dX2_writeTo_135 : decode cX2_writeTo 135 = .ok (.invokevirtual 30, 3) := by decide +kernel
theorem dX2_writeTo_138 : decode cX2_writeTo 138 = .ok (.invokevirtual 71, 3) := by decide +kernel
theorem dX2_writeTo_141 : decode cX2_writeTo 141 = .ok (.iinc 3 1, 3) := by decide +kernel
theorem dX2_writeTo_144 : decode cX2_writeTo 144 = .ok (.goto (-26), 3) := by decide +kernel
theorem dX2_writeTo_147 : decode cX2_writeTo 147 = .ok (.aload_n 1, 1) := by decide +kernel
theorem dX2_writeTo_148 : decode cX2_writeTo 148 = .ok (.aload_n 1, 1) := by decide +kernel
theorem dX2_writeTo_149 : decode cX2_writeTo 149 = .ok (.iconst 0, 1) := by decide +kernel
theorem dX2_writeTo_150 : decode cX2_writeTo 150 = .ok (.iload_n 2, 1) := by decide +kernel
theorem dX2_writeTo_151 : decode cX2_writeTo 151 = .ok (.invokevirtual 38, 3) := by decide +kernel
theorem dX2_writeTo_154 : decode cX2_writeTo 154 = .ok (.i2l, 1) := by decide +kernel
theorem dX2_writeTo_155 : decode cX2_writeTo 155 = .ok (.iconst 2, 1) := by decide +kernel
theorem dX2_writeTo_156 : decode cX2_writeTo 156 = .ok (.invokevirtual 74, 3) := by decide +kernel
theorem dX2_writeTo_159 : decode cX2_writeTo 159 = .ok (.return_, 1) := by decide +kernel
theorem dX2_beginReply_0 : decode cX2_beginReply 0 = .ok (.aload_n 0, 1) := by decide +kernel
theorem dX2_beginReply_1 : decode cX2_beginReply 1 = .ok (.aload_n 1, 1) := by decide +kernel
theorem dX2_beginReply_2 : decode cX2_beginReply 2 = .ok (.getfield 46, 3) := by decide +kernel
theorem dX2_beginReply_5 : decode cX2_beginReply 5 = .ok (.putfield 20, 3) := by decide +kernel
theorem dX2_beginReply_8 : decode cX2_beginReply 8 = .ok (.aload_n 0, 1) := by decide +kernel
theorem dX2_beginReply_9 : decode cX2_beginReply 9 = .ok (.lload_n 2, 1) := by decide +kernel
theorem dX2_beginReply_10 : decode cX2_beginReply 10 = .ok (.putfield 46, 3) := by decide +kernel
theorem dX2_beginReply_13 : decode cX2_beginReply 13 = .ok (.aload_n 0, 1) := by decide +kernel
theorem dX2_beginReply_14 : decode cX2_beginReply 14 = .ok (.aload_n 1, 1) := by decide +kernel
theorem dX2_beginReply_15 : decode cX2_beginReply 15 = .ok (.getfield 49, 3) := by decide +kernel
theorem dX2_beginReply_18 : decode cX2_beginReply 18 = .ok (.putfield 49, 3) := by decide +kernel
theorem dX2_beginReply_21 : decode cX2_beginReply 21 = .ok (.aload_n 0, 1) := by decide +kernel
theorem dX2_beginReply_22 : decode cX2_beginReply 22 = .ok (.iconst 0, 1) := by decide +kernel
theorem dX2_beginReply_23 : decode cX2_beginReply 23 = .ok (.putfield 53, 3) := by decide +kernel
theorem dX2_beginReply_26 : decode cX2_beginReply 26 = .ok (.aload_n 0, 1) := by decide +kernel
theorem dX2_beginReply_27 : decode cX2_beginReply 27 = .ok (.aload_n 1, 1) := by decide +kernel
theorem dX2_beginReply_28 : decode cX2_beginReply 28 = .ok (.getfield 59, 3) := by decide +kernel
theorem dX2_beginReply_31 : decode cX2_beginReply 31 = .ok (.putfield 59, 3) := by decide +kernel
theorem dX2_beginReply_34 : decode cX2_beginReply 34 = .ok (.aload_n 0, 1) := by decide +kernel
theorem dX2_beginReply_35 : decode cX2_beginReply 35 = .ok (.aload_n 1, 1) := by decide +kernel
theorem dX2_beginReply_36 : decode cX2_beginReply 36 = .ok (.getfield 62, 3) := by decide +kernel
theorem dX2_beginReply_39 : decode cX2_beginReply 39 = .ok (.iconst 1, 1) := by decide +kernel
theorem dX2_beginReply_40 : decode cX2_beginReply 40 = .ok (.iadd, 1) := by decide +kernel
theorem dX2_beginReply_41 : decode cX2_beginReply 41 = .ok (.putfield 62, 3) := by decide +kernel
theorem dX2_beginReply_44 : decode cX2_beginReply 44 = .ok (.aload_n 0, 1) := by decide +kernel
theorem dX2_beginReply_45 : decode cX2_beginReply 45 = .ok (.aload_n 1, 1) := by decide +kernel
theorem dX2_beginReply_46 : decode cX2_beginReply 46 = .ok (.getfield 65, 3) := by decide +kernel
theorem dX2_beginReply_49 : decode cX2_beginReply 49 = .ok (.putfield 65, 3) := by decide +kernel
theorem dX2_beginReply_52 : decode cX2_beginReply 52 = .ok (.aload_n 0, 1) := by decide +kernel
theorem dX2_beginReply_53 : decode cX2_beginReply 53 = .ok (.getfield 16, 3) := by decide +kernel
theorem dX2_beginReply_56 : decode cX2_beginReply 56 = .ok (.iconst 0, 1) := by decide +kernel
theorem dX2_beginReply_57 : decode cX2_beginReply 57 = .ok (.invokevirtual 68, 3) := by decide +kernel
theorem dX2_beginReply_60 : decode cX2_beginReply 60 = .ok (.return_, 1) := by decide +kernel
theorem dX2_refuse_0 : decode cX2_refuse 0 = .ok (.aload_n 0, 1) := by decide +kernel
theorem dX2_refuse_1 : decode cX2_refuse 1 = .ok (.iconst 2, 1) := by decide +kernel
theorem dX2_refuse_2 : decode cX2_refuse 2 = .ok (.putfield 53, 3) := by decide +kernel
theorem dX2_refuse_5 : decode cX2_refuse 5 = .ok (.aload_n 0, 1) := by decide +kernel
theorem dX2_refuse_6 : decode cX2_refuse 6 = .ok (.getfield 16, 3) := by decide +kernel
theorem dX2_refuse_9 : decode cX2_refuse 9 = .ok (.iload_n 1, 1) := by decide +kernel
theorem dX2_refuse_10 : decode cX2_refuse 10 = .ok (.i2l, 1) := by decide +kernel
theorem dX2_refuse_11 : decode cX2_refuse 11 = .ok (.iconst 2, 1) := by decide +kernel
theorem dX2_refuse_12 : decode cX2_refuse 12 = .ok (.invokevirtual 74, 3) := by decide +kernel
theorem dX2_refuse_15 : decode cX2_refuse 15 = .ok (.return_, 1) := by decide +kernel
theorem dX3_init_0 : decode cX3_init 0 = .ok (.aload_n 0, 1) := by decide +kernel
theorem dX3_init_1 : decode cX3_init 1 = .ok (.invokespecial 1, 3) := by decide +kernel
theorem dX3_init_4 : decode cX3_init 4 = .ok (.aload_n 0, 1) := by decide +kernel
theorem dX3_init_5 : decode cX3_init 5 = .ok (.iload_n 1, 1) := by decide +kernel
theorem dX3_init_6 : decode cX3_init 6 = .ok (.ifCond .ge 7, 3) := by decide +kernel
theorem dX3_init_9 : decode cX3_init 9 = .ok (.iconst 0, 1) := by decide +kernel
theorem dX3_init_10 : decode cX3_init 10 = .ok (.goto 4, 3) := by decide +kernel
theorem dX3_init_13 : decode cX3_init 13 = .ok (.iload_n 1, 1) := by decide +kernel
theorem dX3_init_14 : decode cX3_init 14 = .ok (.newarray .int, 2) := by decide +kernel
theorem dX3_init_16 : decode cX3_init 16 = .ok (.putfield 7, 3) := by decide +kernel
theorem dX3_init_19 : decode cX3_init 19 = .ok (.return_, 1) := by decide +kernel
theorem dX3_size_0 : decode cX3_size 0 = .ok (.aload_n 0, 1) := by decide +kernel
theorem dX3_size_1 : decode cX3_size 1 = .ok (.getfield 13, 3) := by decide +kernel
theorem dX3_size_4 : decode cX3_size 4 = .ok (.ireturn, 1) := by decide +kernel
theorem dX3_at_0 : decode cX3_at 0 = .ok (.iload_n 1, 1) := by decide +kernel
theorem dX3_at_1 : decode cX3_at 1 = .ok (.ifCond .lt 20, 3) := by decide +kernel
theorem dX3_at_4 : decode cX3_at 4 = .ok (.iload_n 1, 1) := by decide +kernel
theorem dX3_at_5 : decode cX3_at 5 = .ok (.aload_n 0, 1) := by decide +kernel
theorem dX3_at_6 : decode cX3_at 6 = .ok (.getfield 13, 3) := by decide +kernel
theorem dX3_at_9 : decode cX3_at 9 = .ok (.if_icmp .ge 12, 3) := by decide +kernel
theorem dX3_at_12 : decode cX3_at 12 = .ok (.aload_n 0, 1) := by decide +kernel
theorem dX3_at_13 : decode cX3_at 13 = .ok (.getfield 7, 3) := by decide +kernel
theorem dX3_at_16 : decode cX3_at 16 = .ok (.iload_n 1, 1) := by decide +kernel
theorem dX3_at_17 : decode cX3_at 17 = .ok (.iaload, 1) := by decide +kernel
theorem dX3_at_18 : decode cX3_at 18 = .ok (.goto 4, 3) := by decide +kernel
theorem dX3_at_21 : decode cX3_at 21 = .ok (.iconst 0, 1) := by decide +kernel
theorem dX3_at_22 : decode cX3_at 22 = .ok (.ireturn, 1) := by decide +kernel
theorem dX3_number_0 : decode cX3_number 0 = .ok (.lconst 0, 1) := by decide +kernel
theorem dX3_number_1 : decode cX3_number 1 = .ok (.lstore_n 3, 1) := by decide +kernel
theorem dX3_number_2 : decode cX3_number 2 = .ok (.iload_n 1, 1) := by decide +kernel
theorem dX3_number_3 : decode cX3_number 3 = .ok (.istore 5, 2) := by decide +kernel
theorem dX3_number_5 : decode cX3_number 5 = .ok (.iload 5, 2) := by decide +kernel
theorem dX3_number_7 : decode cX3_number 7 = .ok (.iload_n 1, 1) := by decide +kernel
theorem dX3_number_8 : decode cX3_number 8 = .ok (.iload_n 2, 1) := by decide +kernel
theorem dX3_number_9 : decode cX3_number 9 = .ok (.iadd, 1) := by decide +kernel
theorem dX3_number_10 : decode cX3_number 10 = .ok (.if_icmp .ge 22, 3) := by decide +kernel
theorem dX3_number_13 : decode cX3_number 13 = .ok (.lload_n 3, 1) := by decide +kernel
theorem dX3_number_14 : decode cX3_number 14 = .ok (.bipush 8, 2) := by decide +kernel
theorem dX3_number_16 : decode cX3_number 16 = .ok (.lshl, 1) := by decide +kernel
theorem dX3_number_17 : decode cX3_number 17 = .ok (.aload_n 0, 1) := by decide +kernel
theorem dX3_number_18 : decode cX3_number 18 = .ok (.iload 5, 2) := by decide +kernel
theorem dX3_number_20 : decode cX3_number 20 = .ok (.invokevirtual 17, 3) := by decide +kernel
theorem dX3_number_23 : decode cX3_number 23 = .ok (.i2l, 1) := by decide +kernel
theorem dX3_number_24 : decode cX3_number 24 = .ok (.lor, 1) := by decide +kernel
theorem dX3_number_25 : decode cX3_number 25 = .ok (.lstore_n 3, 1) := by decide +kernel
theorem dX3_number_26 : decode cX3_number 26 = .ok (.iinc 5 1, 3) := by decide +kernel
theorem dX3_number_29 : decode cX3_number 29 = .ok (.goto (-24), 3) := by decide +kernel
theorem dX3_number_32 : decode cX3_number 32 = .ok (.lload_n 3, 1) := by decide +kernel
theorem dX3_number_33 : decode cX3_number 33 = .ok (.lreturn, 1) := by decide +kernel
theorem dX3_sum_0 : decode cX3_sum 0 = .ok (.iconst 0, 1) := by decide +kernel
theorem dX3_sum_1 : decode cX3_sum 1 = .ok (.istore_n 3, 1) := by decide +kernel
theorem dX3_sum_2 : decode cX3_sum 2 = .ok (.iload_n 1, 1) := by decide +kernel
theorem dX3_sum_3 : decode cX3_sum 3 = .ok (.istore 4, 2) := by decide +kernel
theorem dX3_sum_5 : decode cX3_sum 5 = .ok (.iload 4, 2) := by decide +kernel
theorem dX3_sum_7 : decode cX3_sum 7 = .ok (.ifCond .lt 34, 3) := by decide +kernel
theorem dX3_sum_10 : decode cX3_sum 10 = .ok (.iload 4, 2) := by decide +kernel
theorem dX3_sum_12 : decode cX3_sum 12 = .ok (.iload_n 2, 1) := by decide +kernel
theorem dX3_sum_13 : decode cX3_sum 13 = .ok (.if_icmp .ge 28, 3) := by decide +kernel
theorem dX3_sum_16 : decode cX3_sum 16 = .ok (.iload 4, 2) := by decide +kernel
theorem dX3_sum_18 : decode cX3_sum 18 = .ok (.aload_n 0, 1) := by decide +kernel
theorem dX3_sum_19 : decode cX3_sum 19 = .ok (.getfield 13, 3) := by decide +kernel
theorem dX3_sum_22 : decode cX3_sum 22 = .ok (.if_icmp .ge 19, 3) := by decide +kernel
theorem dX3_sum_25 : decode cX3_sum 25 = .ok (.iload_n 3, 1) := by decide +kernel
theorem dX3_sum_26 : decode cX3_sum 26 = .ok (.aload_n 0, 1) := by decide +kernel
theorem dX3_sum_27 : decode cX3_sum 27 = .ok (.getfield 7, 3) := by decide +kernel
theorem dX3_sum_30 : decode cX3_sum 30 = .ok (.iload 4, 2) := by decide +kernel
theorem dX3_sum_32 : decode cX3_sum 32 = .ok (.iaload, 1) := by decide +kernel
theorem dX3_sum_33 : decode cX3_sum 33 = .ok (.iadd, 1) := by decide +kernel
theorem dX3_sum_34 : decode cX3_sum 34 = .ok (.istore_n 3, 1) := by decide +kernel
theorem dX3_sum_35 : decode cX3_sum 35 = .ok (.iinc 4 1, 3) := by decide +kernel
theorem dX3_sum_38 : decode cX3_sum 38 = .ok (.goto (-33), 3) := by decide +kernel
theorem dX3_sum_41 : decode cX3_sum 41 = .ok (.iload_n 3, 1) := by decide +kernel
theorem dX3_sum_42 : decode cX3_sum 42 = .ok (.ldc 21, 2) := by decide +kernel
theorem dX3_sum_44 : decode cX3_sum 44 = .ok (.iand, 1) := by decide +kernel
theorem dX3_sum_45 : decode cX3_sum 45 = .ok (.ireturn, 1) := by decide +kernel
theorem dX3_cut_0 : decode cX3_cut 0 = .ok (.iload_n 1, 1) := by decide +kernel
theorem dX3_cut_1 : decode cX3_cut 1 = .ok (.ifCond .lt 16, 3) := by decide +kernel
theorem dX3_cut_4 : decode cX3_cut 4 = .ok (.iload_n 1, 1) := by decide +kernel
theorem dX3_cut_5 : decode cX3_cut 5 = .ok (.aload_n 0, 1) := by decide +kernel
theorem dX3_cut_6 : decode cX3_cut 6 = .ok (.getfield 13, 3) := by decide +kernel
theorem dX3_cut_9 : decode cX3_cut 9 = .ok (.if_icmp .ge 8, 3) := by decide +kernel
theorem dX3_cut_12 : decode cX3_cut 12 = .ok (.aload_n 0, 1) := by decide +kernel
theorem dX3_cut_13 : decode cX3_cut 13 = .ok (.iload_n 1, 1) := by decide +kernel
theorem dX3_cut_14 : decode cX3_cut 14 = .ok (.putfield 13, 3) := by decide +kernel
theorem dX3_cut_17 : decode cX3_cut 17 = .ok (.return_, 1) := by decide +kernel
theorem dX3_put_0 : decode cX3_put 0 = .ok (.aload_n 0, 1) := by decide +kernel
theorem dX3_put_1 : decode cX3_put 1 = .ok (.getfield 13, 3) := by decide +kernel
theorem dX3_put_4 : decode cX3_put 4 = .ok (.aload_n 0, 1) := by decide +kernel
theorem dX3_put_5 : decode cX3_put 5 = .ok (.getfield 7, 3) := by decide +kernel
theorem dX3_put_8 : decode cX3_put 8 = .ok (.arraylength, 1) := by decide +kernel
theorem dX3_put_9 : decode cX3_put 9 = .ok (.if_icmp .ge 27, 3) := by decide +kernel
theorem dX3_put_12 : decode cX3_put 12 = .ok (.aload_n 0, 1) := by decide +kernel
theorem dX3_put_13 : decode cX3_put 13 = .ok (.getfield 7, 3) := by decide +kernel
theorem dX3_put_16 : decode cX3_put 16 = .ok (.aload_n 0, 1) := by decide +kernel
theorem dX3_put_17 : decode cX3_put 17 = .ok (.getfield 13, 3) := by decide +kernel
theorem dX3_put_20 : decode cX3_put 20 = .ok (.iload_n 1, 1) := by decide +kernel
theorem dX3_put_21 : decode cX3_put 21 = .ok (.sipush 255, 3) := by decide +kernel
theorem dX3_put_24 : decode cX3_put 24 = .ok (.iand, 1) := by decide +kernel
theorem dX3_put_25 : decode cX3_put 25 = .ok (.iastore, 1) := by decide +kernel
theorem dX3_put_26 : decode cX3_put 26 = .ok (.aload_n 0, 1) := by decide +kernel
theorem dX3_put_27 : decode cX3_put 27 = .ok (.dup, 1) := by decide +kernel
theorem dX3_put_28 : decode cX3_put 28 = .ok (.getfield 13, 3) := by decide +kernel
theorem dX3_put_31 : decode cX3_put 31 = .ok (.iconst 1, 1) := by decide +kernel
theorem dX3_put_32 : decode cX3_put 32 = .ok (.iadd, 1) := by decide +kernel
theorem dX3_put_33 : decode cX3_put 33 = .ok (.putfield 13, 3) := by decide +kernel
theorem dX3_put_36 : decode cX3_put 36 = .ok (.return_, 1) := by decide +kernel
theorem dX3_putNumber_0 : decode cX3_putNumber 0 = .ok (.iload_n 3, 1) := by decide +kernel
theorem dX3_putNumber_1 : decode cX3_putNumber 1 = .ok (.iconst 1, 1) := by decide +kernel
theorem dX3_putNumber_2 : decode cX3_putNumber 2 = .ok (.isub, 1) := by decide +kernel
theorem dX3_putNumber_3 : decode cX3_putNumber 3 = .ok (.istore 4, 2) := by decide +kernel
theorem dX3_putNumber_5 : decode cX3_putNumber 5 = .ok (.iload 4, 2) := by decide +kernel
theorem dX3_putNumber_7 : decode cX3_putNumber 7 = .ok (.ifCond .lt 52, 3) := by decide +kernel
theorem dX3_putNumber_10 : decode cX3_putNumber 10 = .ok (.aload_n 0, 1) := by decide +kernel
theorem dX3_putNumber_11 : decode cX3_putNumber 11 = .ok (.getfield 13, 3) := by decide +kernel
theorem dX3_putNumber_14 : decode cX3_putNumber 14 = .ok (.aload_n 0, 1) := by decide +kernel
theorem dX3_putNumber_15 : decode cX3_putNumber 15 = .ok (.getfield 7, 3) := by decide +kernel
theorem dX3_putNumber_18 : decode cX3_putNumber 18 = .ok (.arraylength, 1) := by decide +kernel
theorem dX3_putNumber_19 : decode cX3_putNumber 19 = .ok (.if_icmp .ge 40, 3) := by decide +kernel
theorem dX3_putNumber_22 : decode cX3_putNumber 22 = .ok (.aload_n 0, 1) := by decide +kernel
theorem dX3_putNumber_23 : decode cX3_putNumber 23 = .ok (.getfield 7, 3) := by decide +kernel
theorem dX3_putNumber_26 : decode cX3_putNumber 26 = .ok (.aload_n 0, 1) := by decide +kernel
theorem dX3_putNumber_27 : decode cX3_putNumber 27 = .ok (.getfield 13, 3) := by decide +kernel
theorem dX3_putNumber_30 : decode cX3_putNumber 30 = .ok (.lload_n 1, 1) := by decide +kernel
theorem dX3_putNumber_31 : decode cX3_putNumber 31 = .ok (.bipush 8, 2) := by decide +kernel
theorem dX3_putNumber_33 : decode cX3_putNumber 33 = .ok (.iload 4, 2) := by decide +kernel
theorem dX3_putNumber_35 : decode cX3_putNumber 35 = .ok (.imul, 1) := by decide +kernel
theorem dX3_putNumber_36 : decode cX3_putNumber 36 = .ok (.lushr, 1) := by decide +kernel
theorem dX3_putNumber_37 : decode cX3_putNumber 37 = .ok (.l2i, 1) := by decide +kernel
theorem dX3_putNumber_38 : decode cX3_putNumber 38 = .ok (.sipush 255, 3) := by decide +kernel
theorem dX3_putNumber_41 : decode cX3_putNumber 41 = .ok (.iand, 1) := by decide +kernel
theorem dX3_putNumber_42 : decode cX3_putNumber 42 = .ok (.iastore, 1) := by decide +kernel
theorem dX3_putNumber_43 : decode cX3_putNumber 43 = .ok (.aload_n 0, 1) := by decide +kernel
theorem dX3_putNumber_44 : decode cX3_putNumber 44 = .ok (.dup, 1) := by decide +kernel
theorem dX3_putNumber_45 : decode cX3_putNumber 45 = .ok (.getfield 13, 3) := by decide +kernel
theorem dX3_putNumber_48 : decode cX3_putNumber 48 = .ok (.iconst 1, 1) := by decide +kernel
theorem dX3_putNumber_49 : decode cX3_putNumber 49 = .ok (.iadd, 1) := by decide +kernel
theorem dX3_putNumber_50 : decode cX3_putNumber 50 = .ok (.putfield 13, 3) := by decide +kernel
theorem dX3_putNumber_53 : decode cX3_putNumber 53 = .ok (.iinc 4 (-1), 3) := by decide +kernel
theorem dX3_putNumber_56 : decode cX3_putNumber 56 = .ok (.goto (-51), 3) := by decide +kernel
theorem dX3_putNumber_59 : decode cX3_putNumber 59 = .ok (.return_, 1) := by decide +kernel
theorem dX3_copyFrom_0 : decode cX3_copyFrom 0 = .ok (.aload_n 0, 1) := by decide +kernel
theorem dX3_copyFrom_1 : decode cX3_copyFrom 1 = .ok (.iconst 0, 1) := by decide +kernel
theorem dX3_copyFrom_2 : decode cX3_copyFrom 2 = .ok (.putfield 13, 3) := by decide +kernel
theorem dX3_copyFrom_5 : decode cX3_copyFrom 5 = .ok (.iconst 0, 1) := by decide +kernel
theorem dX3_copyFrom_6 : decode cX3_copyFrom 6 = .ok (.istore_n 2, 1) := by decide +kernel
theorem dX3_copyFrom_7 : decode cX3_copyFrom 7 = .ok (.iload_n 2, 1) := by decide +kernel
theorem dX3_copyFrom_8 : decode cX3_copyFrom 8 = .ok (.aload_n 1, 1) := by decide +kernel
theorem dX3_copyFrom_9 : decode cX3_copyFrom 9 = .ok (.getfield 13, 3) := by decide +kernel
theorem dX3_copyFrom_12 : decode cX3_copyFrom 12 = .ok (.if_icmp .ge 40, 3) := by decide +kernel
theorem dX3_copyFrom_15 : decode cX3_copyFrom 15 = .ok (.iload_n 2, 1) := by decide +kernel
theorem dX3_copyFrom_16 : decode cX3_copyFrom 16 = .ok (.aload_n 0, 1) := by decide +kernel
theorem dX3_copyFrom_17 : decode cX3_copyFrom 17 = .ok (.getfield 7, 3) := by decide +kernel
theorem dX3_copyFrom_20 : decode cX3_copyFrom 20 = .ok (.arraylength, 1) := by decide +kernel
theorem dX3_copyFrom_21 : decode cX3_copyFrom 21 = .ok (.if_icmp .ge 31, 3) := by decide +kernel
theorem dX3_copyFrom_24 : decode cX3_copyFrom 24 = .ok (.aload_n 0, 1) := by decide +kernel
theorem dX3_copyFrom_25 : decode cX3_copyFrom 25 = .ok (.getfield 7, 3) := by decide +kernel
theorem dX3_copyFrom_28 : decode cX3_copyFrom 28 = .ok (.iload_n 2, 1) := by decide +kernel
theorem dX3_copyFrom_29 : decode cX3_copyFrom 29 = .ok (.aload_n 1, 1) := by decide +kernel
theorem dX3_copyFrom_30 : decode cX3_copyFrom 30 = .ok (.getfield 7, 3) := by decide +kernel
theorem dX3_copyFrom_33 : decode cX3_copyFrom 33 = .ok (.iload_n 2, 1) := by decide +kernel
theorem dX3_copyFrom_34 : decode cX3_copyFrom 34 = .ok (.iaload, 1) := by decide +kernel
theorem dX3_copyFrom_35 : decode cX3_copyFrom 35 = .ok (.iastore, 1) := by decide +kernel
theorem dX3_copyFrom_36 : decode cX3_copyFrom 36 = .ok (.aload_n 0, 1) := by decide +kernel
theorem dX3_copyFrom_37 : decode cX3_copyFrom 37 = .ok (.dup, 1) := by decide +kernel
theorem dX3_copyFrom_38 : decode cX3_copyFrom 38 = .ok (.getfield 13, 3) := by decide +kernel
theorem dX3_copyFrom_41 : decode cX3_copyFrom 41 = .ok (.iconst 1, 1) := by decide +kernel
theorem dX3_copyFrom_42 : decode cX3_copyFrom 42 = .ok (.iadd, 1) := by decide +kernel
theorem dX3_copyFrom_43 : decode cX3_copyFrom 43 = .ok (.putfield 13, 3) := by decide +kernel
theorem dX3_copyFrom_46 : decode cX3_copyFrom 46 = .ok (.iinc 2 1, 3) := by decide +kernel
theorem dX3_copyFrom_49 : decode cX3_copyFrom 49 = .ok (.goto (-42), 3) := by decide +kernel
theorem dX3_copyFrom_52 : decode cX3_copyFrom 52 = .ok (.return_, 1) := by decide +kernel
theorem dX3_join_0 : decode cX3_join 0 = .ok (.iconst 0, 1) := by decide +kernel
theorem dX3_join_1 : decode cX3_join 1 = .ok (.istore_n 2, 1) := by decide +kernel
theorem dX3_join_2 : decode cX3_join 2 = .ok (.iload_n 2, 1) := by decide +kernel
theorem dX3_join_3 : decode cX3_join 3 = .ok (.aload_n 1, 1) := by decide +kernel
theorem dX3_join_4 : decode cX3_join 4 = .ok (.getfield 13, 3) := by decide +kernel
theorem dX3_join_7 : decode cX3_join 7 = .ok (.if_icmp .ge 66, 3) := by decide +kernel
theorem dX3_join_10 : decode cX3_join 10 = .ok (.iload_n 2, 1) := by decide +kernel
theorem dX3_join_11 : decode cX3_join 11 = .ok (.aload_n 0, 1) := by decide +kernel
theorem dX3_join_12 : decode cX3_join 12 = .ok (.getfield 7, 3) := by decide +kernel
theorem dX3_join_15 : decode cX3_join 15 = .ok (.arraylength, 1) := by decide +kernel
theorem dX3_join_16 : decode cX3_join 16 = .ok (.if_icmp .ge 57, 3) := by decide +kernel
theorem dX3_join_19 : decode cX3_join 19 = .ok (.iload_n 2, 1) := by decide +kernel
theorem dX3_join_20 : decode cX3_join 20 = .ok (.aload_n 0, 1) := by decide +kernel
theorem dX3_join_21 : decode cX3_join 21 = .ok (.getfield 13, 3) := by decide +kernel
theorem dX3_join_24 : decode cX3_join 24 = .ok (.if_icmp .ge 21, 3) := by decide +kernel
theorem dX3_join_27 : decode cX3_join 27 = .ok (.aload_n 0, 1) := by decide +kernel
theorem dX3_join_28 : decode cX3_join 28 = .ok (.getfield 7, 3) := by decide +kernel
theorem dX3_join_31 : decode cX3_join 31 = .ok (.iload_n 2, 1) := by decide +kernel
theorem dX3_join_32 : decode cX3_join 32 = .ok (.dup2, 1) := by decide +kernel
theorem dX3_join_33 : decode cX3_join 33 = .ok (.iaload, 1) := by decide +kernel
theorem dX3_join_34 : decode cX3_join 34 = .ok (.aload_n 1, 1) := by decide +kernel
theorem dX3_join_35 : decode cX3_join 35 = .ok (.getfield 7, 3) := by decide +kernel
theorem dX3_join_38 : decode cX3_join 38 = .ok (.iload_n 2, 1) := by decide +kernel
theorem dX3_join_39 : decode cX3_join 39 = .ok (.iaload, 1) := by decide +kernel
theorem dX3_join_40 : decode cX3_join 40 = .ok (.ior, 1) := by decide +kernel
theorem dX3_join_41 : decode cX3_join 41 = .ok (.iastore, 1) := by decide +kernel
theorem dX3_join_42 : decode cX3_join 42 = .ok (.goto 25, 3) := by decide +kernel
theorem dX3_join_45 : decode cX3_join 45 = .ok (.aload_n 0, 1) := by decide +kernel
theorem dX3_join_46 : decode cX3_join 46 = .ok (.getfield 7, 3) := by decide +kernel
theorem dX3_join_49 : decode cX3_join 49 = .ok (.iload_n 2, 1) := by decide +kernel
theorem dX3_join_50 : decode cX3_join 50 = .ok (.aload_n 1, 1) := by decide +kernel
theorem dX3_join_51 : decode cX3_join 51 = .ok (.getfield 7, 3) := by decide +kernel
theorem dX3_join_54 : decode cX3_join 54 = .ok (.iload_n 2, 1) := by decide +kernel
theorem dX3_join_55 : decode cX3_join 55 = .ok (.iaload, 1) := by decide +kernel
theorem dX3_join_56 : decode cX3_join 56 = .ok (.iastore, 1) := by decide +kernel
theorem dX3_join_57 : decode cX3_join 57 = .ok (.aload_n 0, 1) := by decide +kernel
theorem dX3_join_58 : decode cX3_join 58 = .ok (.dup, 1) := by decide +kernel
theorem dX3_join_59 : decode cX3_join 59 = .ok (.getfield 13, 3) := by decide +kernel
theorem dX3_join_62 : decode cX3_join 62 = .ok (.iconst 1, 1) := by decide +kernel
theorem dX3_join_63 : decode cX3_join 63 = .ok (.iadd, 1) := by decide +kernel
theorem dX3_join_64 : decode cX3_join 64 = .ok (.putfield 13, 3) := by decide +kernel
theorem dX3_join_67 : decode cX3_join 67 = .ok (.iinc 2 1, 3) := by decide +kernel
theorem dX3_join_70 : decode cX3_join 70 = .ok (.goto (-68), 3) := by decide +kernel
theorem dX3_join_73 : decode cX3_join 73 = .ok (.return_, 1) := by decide +kernel
theorem dX3_flip_0 : decode cX3_flip 0 = .ok (.iload_n 1, 1) := by decide +kernel
theorem dX3_flip_1 : decode cX3_flip 1 = .ok (.ifCond .lt 25, 3) := by decide +kernel
theorem dX3_flip_4 : decode cX3_flip 4 = .ok (.iload_n 1, 1) := by decide +kernel
theorem dX3_flip_5 : decode cX3_flip 5 = .ok (.aload_n 0, 1) := by decide +kernel
theorem dX3_flip_6 : decode cX3_flip 6 = .ok (.getfield 13, 3) := by decide +kernel
theorem dX3_flip_9 : decode cX3_flip 9 = .ok (.if_icmp .ge 17, 3) := by decide +kernel
theorem dX3_flip_12 : decode cX3_flip 12 = .ok (.aload_n 0, 1) := by decide +kernel
theorem dX3_flip_13 : decode cX3_flip 13 = .ok (.getfield 7, 3) := by decide +kernel
theorem dX3_flip_16 : decode cX3_flip 16 = .ok (.iload_n 1, 1) := by decide +kernel
theorem dX3_flip_17 : decode cX3_flip 17 = .ok (.dup2, 1) := by decide +kernel
theorem dX3_flip_18 : decode cX3_flip 18 = .ok (.iaload, 1) := by decide +kernel
theorem dX3_flip_19 : decode cX3_flip 19 = .ok (.iload_n 2, 1) := by decide +kernel
theorem dX3_flip_20 : decode cX3_flip 20 = .ok (.sipush 255, 3) := by decide +kernel
theorem dX3_flip_23 : decode cX3_flip 23 = .ok (.iand, 1) := by decide +kernel
theorem dX3_flip_24 : decode cX3_flip 24 = .ok (.ixor, 1) := by decide +kernel
theorem dX3_flip_25 : decode cX3_flip 25 = .ok (.iastore, 1) := by decide +kernel
theorem dX3_flip_26 : decode cX3_flip 26 = .ok (.return_, 1) := by decide +kernel
theorem dX4_init_0 : decode cX4_init 0 = .ok (.aload_n 0, 1) := by decide +kernel
theorem dX4_init_1 : decode cX4_init 1 = .ok (.invokespecial 3, 3) := by decide +kernel
theorem dX4_init_4 : decode cX4_init 4 = .ok (.aload_n 0, 1) := by decide +kernel
theorem dX4_init_5 : decode cX4_init 5 = .ok (.bipush 64, 2) := by decide +kernel
theorem dX4_init_7 : decode cX4_init 7 = .ok (.newarray .long, 2) := by decide +kernel
theorem dX4_init_9 : decode cX4_init 9 = .ok (.putfield 11, 3) := by decide +kernel
theorem dX4_init_12 : decode cX4_init 12 = .ok (.aload_n 0, 1) := by decide +kernel
theorem dX4_init_13 : decode cX4_init 13 = .ok (.bipush 64, 2) := by decide +kernel
theorem dX4_init_15 : decode cX4_init 15 = .ok (.newarray .long, 2) := by decide +kernel
theorem dX4_init_17 : decode cX4_init 17 = .ok (.putfield 15, 3) := by decide +kernel
theorem dX4_init_20 : decode cX4_init 20 = .ok (.aload_n 0, 1) := by decide +kernel
theorem dX4_init_21 : decode cX4_init 21 = .ok (.bipush 24, 2) := by decide +kernel
theorem dX4_init_23 : decode cX4_init 23 = .ok (.newarray .long, 2) := by decide +kernel
theorem dX4_init_25 : decode cX4_init 25 = .ok (.putfield 18, 3) := by decide +kernel
theorem dX4_init_28 : decode cX4_init 28 = .ok (.return_, 1) := by decide +kernel
theorem dX4_begin_0 : decode cX4_begin 0 = .ok (.aload_n 0, 1) := by decide +kernel
theorem dX4_begin_1 : decode cX4_begin 1 = .ok (.iconst 1, 1) := by decide +kernel
theorem dX4_begin_2 : decode cX4_begin 2 = .ok (.putfield 21, 3) := by decide +kernel
theorem dX4_begin_5 : decode cX4_begin 5 = .ok (.aload_n 0, 1) := by decide +kernel
theorem dX4_begin_6 : decode cX4_begin 6 = .ok (.iconst 0, 1) := by decide +kernel
theorem dX4_begin_7 : decode cX4_begin 7 = .ok (.putfield 25, 3) := by decide +kernel
theorem dX4_begin_10 : decode cX4_begin 10 = .ok (.aload_n 0, 1) := by decide +kernel
theorem dX4_begin_11 : decode cX4_begin 11 = .ok (.iconst 0, 1) := by decide +kernel
theorem dX4_begin_12 : decode cX4_begin 12 = .ok (.putfield 29, 3) := by decide +kernel
theorem dX4_begin_15 : decode cX4_begin 15 = .ok (.aload_n 0, 1) := by decide +kernel
theorem dX4_begin_16 : decode cX4_begin 16 = .ok (.iconst 0, 1) := by decide +kernel
theorem dX4_begin_17 : decode cX4_begin 17 = .ok (.putfield 32, 3) := by decide +kernel
theorem dX4_begin_20 : decode cX4_begin 20 = .ok (.aload_n 0, 1) := by decide +kernel
theorem dX4_begin_21 : decode cX4_begin 21 = .ok (.lconst 0, 1) := by decide +kernel
theorem dX4_begin_22 : decode cX4_begin 22 = .ok (.ldc2_w 35, 3) := by decide +kernel
theorem dX4_begin_25 : decode cX4_begin 25 = .ok (.invokevirtual 37, 3) := by decide +kernel
theorem dX4_begin_28 : decode cX4_begin 28 = .ok (.return_, 1) := by decide +kernel
theorem dX4_latestLow_0 : decode cX4_latestLow 0 = .ok (.aload_n 0, 1) := by decide +kernel
theorem dX4_latestLow_1 : decode cX4_latestLow 1 = .ok (.getfield 25, 3) := by decide +kernel
theorem dX4_latestLow_4 : decode cX4_latestLow 4 = .ok (.ifCond .le 17, 3) := by decide +kernel
theorem dX4_latestLow_7 : decode cX4_latestLow 7 = .ok (.aload_n 0, 1) := by decide +kernel
theorem dX4_latestLow_8 : decode cX4_latestLow 8 = .ok (.getfield 11, 3) := by decide +kernel
theorem dX4_latestLow_11 : decode cX4_latestLow 11 = .ok (.aload_n 0, 1) := by decide +kernel
theorem dX4_latestLow_12 : decode cX4_latestLow 12 = .ok (.getfield 25, 3) := by decide +kernel
theorem dX4_latestLow_15 : decode cX4_latestLow 15 = .ok (.iconst 1, 1) := by decide +kernel
theorem dX4_latestLow_16 : decode cX4_latestLow 16 = .ok (.isub, 1) := by decide +kernel
theorem dX4_latestLow_17 : decode cX4_latestLow 17 = .ok (.laload, 1) := by decide +kernel
theorem dX4_latestLow_18 : decode cX4_latestLow 18 = .ok (.goto 6, 3) := by decide +kernel
theorem dX4_latestLow_21 : decode cX4_latestLow 21 = .ok (.ldc2_w 41, 3) := by decide +kernel
theorem dX4_latestLow_24 : decode cX4_latestLow 24 = .ok (.lreturn, 1) := by decide +kernel
theorem dX4_latestHigh_0 : decode cX4_latestHigh 0 = .ok (.aload_n 0, 1) := by decide +kernel
theorem dX4_latestHigh_1 : decode cX4_latestHigh 1 = .ok (.getfield 25, 3) := by decide +kernel
theorem dX4_latestHigh_4 : decode cX4_latestHigh 4 = .ok (.ifCond .le 17, 3) := by decide +kernel
theorem dX4_latestHigh_7 : decode cX4_latestHigh 7 = .ok (.aload_n 0, 1) := by decide +kernel
theorem dX4_latestHigh_8 : decode cX4_latestHigh 8 = .ok (.getfield 15, 3) := by decide +kernel
theorem dX4_latestHigh_11 : decode cX4_latestHigh 11 = .ok (.aload_n 0, 1) := by decide +kernel
theorem dX4_latestHigh_12 : decode cX4_latestHigh 12 = .ok (.getfield 25, 3) := by decide +kernel
theorem dX4_latestHigh_15 : decode cX4_latestHigh 15 = .ok (.iconst 1, 1) := by decide +kernel
theorem dX4_latestHigh_16 : decode cX4_latestHigh 16 = .ok (.isub, 1) := by decide +kernel
theorem dX4_latestHigh_17 : decode cX4_latestHigh 17 = .ok (.laload, 1) := by decide +kernel
theorem dX4_latestHigh_18 : decode cX4_latestHigh 18 = .ok (.goto 6, 3) := by decide +kernel
theorem dX4_latestHigh_21 : decode cX4_latestHigh 21 = .ok (.ldc2_w 41, 3) := by decide +kernel
theorem dX4_latestHigh_24 : decode cX4_latestHigh 24 = .ok (.lreturn, 1) := by decide +kernel
theorem dX4_takeLatest_0 : decode cX4_takeLatest 0 = .ok (.aload_n 0, 1) := by decide +kernel
theorem dX4_takeLatest_1 : decode cX4_takeLatest 1 = .ok (.getfield 25, 3) := by decide +kernel
theorem dX4_takeLatest_4 : decode cX4_takeLatest 4 = .ok (.ifCond .le 23, 3) := by decide +kernel
theorem dX4_takeLatest_7 : decode cX4_takeLatest 7 = .ok (.aload_n 0, 1) := by decide +kernel
theorem dX4_takeLatest_8 : decode cX4_takeLatest 8 = .ok (.dup, 1) := by decide +kernel
theorem dX4_takeLatest_9 : decode cX4_takeLatest 9 = .ok (.getfield 25, 3) := by decide +kernel
theorem dX4_takeLatest_12 : decode cX4_takeLatest 12 = .ok (.iconst 1, 1) := by decide +kernel
theorem dX4_takeLatest_13 : decode cX4_takeLatest 13 = .ok (.isub, 1) := by decide +kernel
theorem dX4_takeLatest_14 : decode cX4_takeLatest 14 = .ok (.putfield 25, 3) := by decide +kernel
theorem dX4_takeLatest_17 : decode cX4_takeLatest 17 = .ok (.aload_n 0, 1) := by decide +kernel
theorem dX4_takeLatest_18 : decode cX4_takeLatest 18 = .ok (.dup, 1) := by decide +kernel
theorem dX4_takeLatest_19 : decode cX4_takeLatest 19 = .ok (.getfield 32, 3) := by decide +kernel
theorem dX4_takeLatest_22 : decode cX4_takeLatest 22 = .ok (.iconst 1, 1) := by decide +kernel
theorem dX4_takeLatest_23 : decode cX4_takeLatest 23 = .ok (.iadd, 1) := by decide +kernel
theorem dX4_takeLatest_24 : decode cX4_takeLatest 24 = .ok (.putfield 32, 3) := by decide +kernel
theorem dX4_takeLatest_27 : decode cX4_takeLatest 27 = .ok (.return_, 1) := by decide +kernel
theorem dX4_pile_0 : decode cX4_pile 0 = .ok (.aload_n 0, 1) := by decide +kernel
theorem dX4_pile_1 : decode cX4_pile 1 = .ok (.getfield 25, 3) := by decide +kernel
theorem dX4_pile_4 : decode cX4_pile 4 = .ok (.bipush 64, 2) := by decide +kernel
theorem dX4_pile_6 : decode cX4_pile 6 = .ok (.if_icmp .ge 33, 3) := by decide +kernel
theorem dX4_pile_9 : decode cX4_pile 9 = .ok (.aload_n 0, 1) := by decide +kernel
theorem dX4_pile_10 : decode cX4_pile 10 = .ok (.getfield 11, 3) := by decide +kernel
theorem dX4_pile_13 : decode cX4_pile 13 = .ok (.aload_n 0, 1) := by decide +kernel
theorem dX4_pile_14 : decode cX4_pile 14 = .ok (.getfield 25, 3) := by decide +kernel
theorem dX4_pile_17 : decode cX4_pile 17 = .ok (.lload_n 1, 1) := by decide +kernel
theorem dX4_pile_18 : decode cX4_pile 18 = .ok (.lastore, 1) := by decide +kernel
theorem dX4_pile_19 : decode cX4_pile 19 = .ok (.aload_n 0, 1) := by decide +kernel
theorem dX4_pile_20 : decode cX4_pile 20 = .ok (.getfield 15, 3) := by decide +kernel
theorem dX4_pile_23 : decode cX4_pile 23 = .ok (.aload_n 0, 1) := by decide +kernel
theorem dX4_pile_24 : decode cX4_pile 24 = .ok (.getfield 25, 3) := by decide +kernel
theorem dX4_pile_27 : decode cX4_pile 27 = .ok (.lload_n 3, 1) := by decide +kernel
theorem dX4_pile_28 : decode cX4_pile 28 = .ok (.lastore, 1) := by decide +kernel
theorem dX4_pile_29 : decode cX4_pile 29 = .ok (.aload_n 0, 1) := by decide +kernel
theorem dX4_pile_30 : decode cX4_pile 30 = .ok (.dup, 1) := by decide +kernel
theorem dX4_pile_31 : decode cX4_pile 31 = .ok (.getfield 25, 3) := by decide +kernel
theorem dX4_pile_34 : decode cX4_pile 34 = .ok (.iconst 1, 1) := by decide +kernel
theorem dX4_pile_35 : decode cX4_pile 35 = .ok (.iadd, 1) := by decide +kernel
theorem dX4_pile_36 : decode cX4_pile 36 = .ok (.putfield 25, 3) := by decide +kernel
theorem dX4_pile_39 : decode cX4_pile 39 = .ok (.return_, 1) := by decide +kernel
theorem dX4_hasFound_0 : decode cX4_hasFound 0 = .ok (.iconst 0, 1) := by decide +kernel
theorem dX4_hasFound_1 : decode cX4_hasFound 1 = .ok (.istore_n 3, 1) := by decide +kernel
theorem dX4_hasFound_2 : decode cX4_hasFound 2 = .ok (.iload_n 3, 1) := by decide +kernel
theorem dX4_hasFound_3 : decode cX4_hasFound 3 = .ok (.aload_n 0, 1) := by decide +kernel
theorem dX4_hasFound_4 : decode cX4_hasFound 4 = .ok (.getfield 29, 3) := by decide +kernel
theorem dX4_hasFound_7 : decode cX4_hasFound 7 = .ok (.if_icmp .ge 22, 3) := by decide +kernel
theorem dX4_hasFound_10 : decode cX4_hasFound 10 = .ok (.aload_n 0, 1) := by decide +kernel
theorem dX4_hasFound_11 : decode cX4_hasFound 11 = .ok (.getfield 18, 3) := by decide +kernel
theorem dX4_hasFound_14 : decode cX4_hasFound 14 = .ok (.iload_n 3, 1) := by decide +kernel
theorem dX4_hasFound_15 : decode cX4_hasFound 15 = .ok (.laload, 1) := by decide +kernel
theorem dX4_hasFound_16 : decode cX4_hasFound 16 = .ok (.lload_n 1, 1) := by decide +kernel
theorem dX4_hasFound_17 : decode cX4_hasFound 17 = .ok (.lcmp, 1) := by decide +kernel
theorem dX4_hasFound_18 : decode cX4_hasFound 18 = .ok (.ifCond .ne 5, 3) := by decide +kernel
theorem dX4_hasFound_21 : decode cX4_hasFound 21 = .ok (.iconst 1, 1) := by decide +kernel
theorem dX4_hasFound_22 : decode cX4_hasFound 22 = .ok (.ireturn, 1) := by decide +kernel
theorem dX4_hasFound_23 : decode cX4_hasFound 23 = .ok (.iinc 3 1, 3) := by decide +kernel
theorem dX4_hasFound_26 : decode cX4_hasFound 26 = .ok (.goto (-24), 3) := by decide +kernel
theorem dX4_hasFound_29 : decode cX4_hasFound 29 = .ok (.iconst 0, 1) := by decide +kernel
theorem dX4_hasFound_30 : decode cX4_hasFound 30 = .ok (.ireturn, 1) := by decide +kernel
theorem dX4_keepFound_0 : decode cX4_keepFound 0 = .ok (.aload_n 0, 1) := by decide +kernel
theorem dX4_keepFound_1 : decode cX4_keepFound 1 = .ok (.lload_n 1, 1) := by decide +kernel
theorem dX4_keepFound_2 : decode cX4_keepFound 2 = .ok (.invokevirtual 43, 3) := by decide +kernel
theorem dX4_keepFound_5 : decode cX4_keepFound 5 = .ok (.ifCond .ne 32, 3) := by decide +kernel
theorem dX4_keepFound_8 : decode cX4_keepFound 8 = .ok (.aload_n 0, 1) := by decide +kernel
theorem dX4_keepFound_9 : decode cX4_keepFound 9 = .ok (.getfield 29, 3) := by decide +kernel
theorem dX4_keepFound_12 : decode cX4_keepFound 12 = .ok (.bipush 24, 2) := by decide +kernel
theorem dX4_keepFound_14 : decode cX4_keepFound 14 = .ok (.if_icmp .ge 23, 3) := by decide +kernel
theorem dX4_keepFound_17 : decode cX4_keepFound 17 = .ok (.aload_n 0, 1) := by decide +kernel
theorem dX4_keepFound_18 : decode cX4_keepFound 18 = .ok (.getfield 18, 3) := by decide +kernel
theorem dX4_keepFound_21 : decode cX4_keepFound 21 = .ok (.aload_n 0, 1) := by decide +kernel
theorem dX4_keepFound_22 : decode cX4_keepFound 22 = .ok (.getfield 29, 3) := by decide +kernel
theorem dX4_keepFound_25 : decode cX4_keepFound 25 = .ok (.lload_n 1, 1) := by decide +kernel
theorem dX4_keepFound_26 : decode cX4_keepFound 26 = .ok (.lastore, 1) := by decide +kernel
theorem dX4_keepFound_27 : decode cX4_keepFound 27 = .ok (.aload_n 0, 1) := by decide +kernel
theorem dX4_keepFound_28 : decode cX4_keepFound 28 = .ok (.dup, 1) := by decide +kernel
theorem dX4_keepFound_29 : decode cX4_keepFound 29 = .ok (.getfield 29, 3) := by decide +kernel
theorem dX4_keepFound_32 : decode cX4_keepFound 32 = .ok (.iconst 1, 1) := by decide +kernel
theorem dX4_keepFound_33 : decode cX4_keepFound 33 = .ok (.iadd, 1) := by decide +kernel
theorem dX4_keepFound_34 : decode cX4_keepFound 34 = .ok (.putfield 29, 3) := by decide +kernel
theorem dX4_keepFound_37 : decode cX4_keepFound 37 = .ok (.return_, 1) := by decide +kernel
theorem dX5_init_0 : decode cX5_init 0 = .ok (.aload_n 0, 1) := by decide +kernel
theorem dX5_init_1 : decode cX5_init 1 = .ok (.invokespecial 1, 3) := by decide +kernel
theorem dX5_init_4 : decode cX5_init 4 = .ok (.aload_n 0, 1) := by decide +kernel
theorem dX5_init_5 : decode cX5_init 5 = .ok (.bipush 16, 2) := by decide +kernel
theorem dX5_init_7 : decode cX5_init 7 = .ok (.newarray .int, 2) := by decide +kernel
theorem dX5_init_9 : decode cX5_init 9 = .ok (.putfield 9, 3) := by decide +kernel
theorem dX5_init_12 : decode cX5_init 12 = .ok (.aload_n 0, 1) := by decide +kernel
theorem dX5_init_13 : decode cX5_init 13 = .ok (.bipush 16, 2) := by decide +kernel
theorem dX5_init_15 : decode cX5_init 15 = .ok (.newarray .int, 2) := by decide +kernel
theorem dX5_init_17 : decode cX5_init 17 = .ok (.putfield 13, 3) := by decide +kernel
theorem dX5_init_20 : decode cX5_init 20 = .ok (.return_, 1) := by decide +kernel
theorem dX5_add_0 : decode cX5_add 0 = .ok (.aload_n 0, 1) := by decide +kernel
theorem dX5_add_1 : decode cX5_add 1 = .ok (.getfield 16, 3) := by decide +kernel
theorem dX5_add_4 : decode cX5_add 4 = .ok (.bipush 16, 2) := by decide +kernel
theorem dX5_add_6 : decode cX5_add 6 = .ok (.if_icmp .lt 7, 3) := by decide +kernel
theorem dX5_add_9 : decode cX5_add 9 = .ok (.aload_n 0, 1) := by decide +kernel
theorem dX5_add_10 : decode cX5_add 10 = .ok (.invokevirtual 20, 3) := by decide +kernel
theorem dX5_add_13 : decode cX5_add 13 = .ok (.aload_n 0, 1) := by decide +kernel
theorem dX5_add_14 : decode cX5_add 14 = .ok (.getfield 9, 3) := by decide +kernel
theorem dX5_add_17 : decode cX5_add 17 = .ok (.aload_n 0, 1) := by decide +kernel
theorem dX5_add_18 : decode cX5_add 18 = .ok (.getfield 16, 3) := by decide +kernel
theorem dX5_add_21 : decode cX5_add 21 = .ok (.iload_n 1, 1) := by decide +kernel
theorem dX5_add_22 : decode cX5_add 22 = .ok (.iastore, 1) := by decide +kernel
theorem dX5_add_23 : decode cX5_add 23 = .ok (.aload_n 0, 1) := by decide +kernel
theorem dX5_add_24 : decode cX5_add 24 = .ok (.getfield 13, 3) := by decide +kernel
theorem dX5_add_27 : decode cX5_add 27 = .ok (.aload_n 0, 1) := by decide +kernel
theorem dX5_add_28 : decode cX5_add 28 = .ok (.getfield 16, 3) := by decide +kernel
theorem dX5_add_31 : decode cX5_add 31 = .ok (.iload_n 2, 1) := by decide +kernel
theorem dX5_add_32 : decode cX5_add 32 = .ok (.iastore, 1) := by decide +kernel
theorem dX5_add_33 : decode cX5_add 33 = .ok (.aload_n 0, 1) := by decide +kernel
theorem dX5_add_34 : decode cX5_add 34 = .ok (.dup, 1) := by decide +kernel
theorem dX5_add_35 : decode cX5_add 35 = .ok (.getfield 16, 3) := by decide +kernel
theorem dX5_add_38 : decode cX5_add 38 = .ok (.iconst 1, 1) := by decide +kernel
theorem dX5_add_39 : decode cX5_add 39 = .ok (.iadd, 1) := by decide +kernel
theorem dX5_add_40 : decode cX5_add 40 = .ok (.putfield 16, 3) := by decide +kernel
theorem dX5_add_43 : decode cX5_add 43 = .ok (.return_, 1) := by decide +kernel
theorem dX5_dropFirst_0 : decode cX5_dropFirst 0 = .ok (.iconst 1, 1) := by decide +kernel
theorem dX5_dropFirst_1 : decode cX5_dropFirst 1 = .ok (.istore_n 1, 1) := by decide +kernel
theorem dX5_dropFirst_2 : decode cX5_dropFirst 2 = .ok (.iload_n 1, 1) := by decide +kernel
theorem dX5_dropFirst_3 : decode cX5_dropFirst 3 = .ok (.bipush 16, 2) := by decide +kernel
theorem dX5_dropFirst_5 : decode cX5_dropFirst 5 = .ok (.if_icmp .ge 37, 3) := by decide +kernel
theorem dX5_dropFirst_8 : decode cX5_dropFirst 8 = .ok (.aload_n 0, 1) := by decide +kernel
theorem dX5_dropFirst_9 : decode cX5_dropFirst 9 = .ok (.getfield 9, 3) := by decide +kernel
theorem dX5_dropFirst_12 : decode cX5_dropFirst 12 = .ok (.iload_n 1, 1) := by decide +kernel
theorem dX5_dropFirst_13 : decode cX5_dropFirst 13 = .ok (.iconst 1, 1) := by decide +kernel
theorem dX5_dropFirst_14 : decode cX5_dropFirst 14 = .ok (.isub, 1) := by decide +kernel
theorem dX5_dropFirst_15 : decode cX5_dropFirst 15 = .ok (.aload_n 0, 1) := by decide +kernel
theorem dX5_dropFirst_16 : decode cX5_dropFirst 16 = .ok (.getfield 9, 3) := by decide +kernel
theorem dX5_dropFirst_19 : decode cX5_dropFirst 19 = .ok (.iload_n 1, 1) := by decide +kernel
theorem dX5_dropFirst_20 : decode cX5_dropFirst 20 = .ok (.iaload, 1) := by decide +kernel
theorem dX5_dropFirst_21 : decode cX5_dropFirst 21 = .ok (.iastore, 1) := by decide +kernel
theorem dX5_dropFirst_22 : decode cX5_dropFirst 22 = .ok (.aload_n 0, 1) := by decide +kernel
theorem dX5_dropFirst_23 : decode cX5_dropFirst 23 = .ok (.getfield 13, 3) := by decide +kernel
theorem dX5_dropFirst_26 : decode cX5_dropFirst 26 = .ok (.iload_n 1, 1) := by decide +kernel
theorem dX5_dropFirst_27 : decode cX5_dropFirst 27 = .ok (.iconst 1, 1) := by decide +kernel
theorem dX5_dropFirst_28 : decode cX5_dropFirst 28 = .ok (.isub, 1) := by decide +kernel
theorem dX5_dropFirst_29 : decode cX5_dropFirst 29 = .ok (.aload_n 0, 1) := by decide +kernel
theorem dX5_dropFirst_30 : decode cX5_dropFirst 30 = .ok (.getfield 13, 3) := by decide +kernel
theorem dX5_dropFirst_33 : decode cX5_dropFirst 33 = .ok (.iload_n 1, 1) := by decide +kernel
theorem dX5_dropFirst_34 : decode cX5_dropFirst 34 = .ok (.iaload, 1) := by decide +kernel
theorem dX5_dropFirst_35 : decode cX5_dropFirst 35 = .ok (.iastore, 1) := by decide +kernel
theorem dX5_dropFirst_36 : decode cX5_dropFirst 36 = .ok (.iinc 1 1, 3) := by decide +kernel
theorem dX5_dropFirst_39 : decode cX5_dropFirst 39 = .ok (.goto (-37), 3) := by decide +kernel
theorem dX5_dropFirst_42 : decode cX5_dropFirst 42 = .ok (.aload_n 0, 1) := by decide +kernel
theorem dX5_dropFirst_43 : decode cX5_dropFirst 43 = .ok (.bipush 15, 2) := by decide +kernel
theorem dX5_dropFirst_45 : decode cX5_dropFirst 45 = .ok (.putfield 16, 3) := by decide +kernel
theorem dX5_dropFirst_48 : decode cX5_dropFirst 48 = .ok (.return_, 1) := by decide +kernel
theorem dX5_applyTo_0 : decode cX5_applyTo 0 = .ok (.iconst 0, 1) := by decide +kernel
theorem dX5_applyTo_1 : decode cX5_applyTo 1 = .ok (.istore_n 2, 1) := by decide +kernel
theorem dX5_applyTo_2 : decode cX5_applyTo 2 = .ok (.iload_n 2, 1) := by decide +kernel
theorem dX5_applyTo_3 : decode cX5_applyTo 3 = .ok (.aload_n 0, 1) := by decide +kernel
theorem dX5_applyTo_4 : decode cX5_applyTo 4 = .ok (.getfield 16, 3) := by decide +kernel
theorem dX5_applyTo_7 : decode cX5_applyTo 7 = .ok (.if_icmp .ge 25, 3) := by decide +kernel
theorem dX5_applyTo_10 : decode cX5_applyTo 10 = .ok (.aload_n 1, 1) := by decide +kernel
theorem dX5_applyTo_11 : decode cX5_applyTo 11 = .ok (.aload_n 0, 1) := by decide +kernel
theorem dX5_applyTo_12 : decode cX5_applyTo 12 = .ok (.getfield 9, 3) := by decide +kernel
theorem dX5_applyTo_15 : decode cX5_applyTo 15 = .ok (.iload_n 2, 1) := by decide +kernel
theorem dX5_applyTo_16 : decode cX5_applyTo 16 = .ok (.iaload, 1) := by decide +kernel
theorem dX5_applyTo_17 : decode cX5_applyTo 17 = .ok (.aload_n 0, 1) := by decide +kernel
theorem dX5_applyTo_18 : decode cX5_applyTo 18 = .ok (.getfield 13, 3) := by decide +kernel
theorem dX5_applyTo_21 : decode cX5_applyTo 21 = .ok (.iload_n 2, 1) := by decide +kernel
theorem dX5_applyTo_22 : decode cX5_applyTo 22 = .ok (.iaload, 1) := by decide +kernel
theorem dX5_applyTo_23 : decode cX5_applyTo 23 = .ok (.invokevirtual 23, 3) := by decide +kernel
theorem dX5_applyTo_26 : decode cX5_applyTo 26 = .ok (.iinc 2 1, 3) := by decide +kernel
theorem dX5_applyTo_29 : decode cX5_applyTo 29 = .ok (.goto (-27), 3) := by decide +kernel
theorem dX5_applyTo_32 : decode cX5_applyTo 32 = .ok (.aload_n 0, 1) := by decide +kernel
theorem dX5_applyTo_33 : decode cX5_applyTo 33 = .ok (.iconst 0, 1) := by decide +kernel
theorem dX5_applyTo_34 : decode cX5_applyTo 34 = .ok (.putfield 16, 3) := by decide +kernel
theorem dX5_applyTo_37 : decode cX5_applyTo 37 = .ok (.return_, 1) := by decide +kernel
theorem dJ9_min_7cf53_0 : decode cJ9_min_7cf53 0 = .ok (.iload_n 0, 1) := by decide +kernel
theorem dJ9_min_7cf53_1 : decode cJ9_min_7cf53 1 = .ok (.iload_n 1, 1) := by decide +kernel
theorem dJ9_min_7cf53_2 : decode cJ9_min_7cf53 2 = .ok (.if_icmp .gt 7, 3) := by decide +kernel
theorem dJ9_min_7cf53_5 : decode cJ9_min_7cf53 5 = .ok (.iload_n 0, 1) := by decide +kernel
theorem dJ9_min_7cf53_6 : decode cJ9_min_7cf53 6 = .ok (.goto 4, 3) := by decide +kernel
theorem dJ9_min_7cf53_9 : decode cJ9_min_7cf53 9 = .ok (.iload_n 1, 1) := by decide +kernel
theorem dJ9_min_7cf53_10 : decode cJ9_min_7cf53 10 = .ok (.ireturn, 1) := by decide +kernel
end
section
theorem dX6_init_0 : decode cX6_init 0 = .ok (.aload_n 0, 1) := by decide +kernel
theorem dX6_init_1 : decode cX6_init 1 = .ok (.invokespecial 1, 3) := by decide +kernel
theorem dX6_init_4 : decode cX6_init 4 = .ok (.aload_n 0, 1) := by decide +kernel
theorem dX6_init_5 : decode cX6_init 5 = .ok (.new 7, 3) := by decide +kernel
theorem dX6_init_8 : decode cX6_init 8 = .ok (.dup, 1) := by decide +kernel
theorem dX6_init_9 : decode cX6_init 9 = .ok (.sipush 520, 3) := by decide +kernel
theorem dX6_init_12 : decode cX6_init 12 = .ok (.invokespecial 11, 3) := by decide +kernel
theorem dX6_init_15 : decode cX6_init 15 = .ok (.putfield 14, 3) := by decide +kernel
theorem dX6_init_18 : decode cX6_init 18 = .ok (.aload_n 0, 1) := by decide +kernel
theorem dX6_init_19 : decode cX6_init 19 = .ok (.new 7, 3) := by decide +kernel
theorem dX6_init_22 : decode cX6_init 22 = .ok (.dup, 1) := by decide +kernel
theorem dX6_init_23 : decode cX6_init 23 = .ok (.sipush 513, 3) := by decide +kernel
theorem dX6_init_26 : decode cX6_init 26 = .ok (.invokespecial 11, 3) := by decide +kernel
theorem dX6_init_29 : decode cX6_init 29 = .ok (.putfield 18, 3) := by decide +kernel
theorem dX6_init_32 : decode cX6_init 32 = .ok (.aload_n 0, 1) := by decide +kernel
theorem dX6_init_33 : decode cX6_init 33 = .ok (.new 7, 3) := by decide +kernel
theorem dX6_init_36 : decode cX6_init 36 = .ok (.dup, 1) := by decide +kernel
theorem dX6_init_37 : decode cX6_init 37 = .ok (.sipush 257, 3) := by decide +kernel
theorem dX6_init_40 : decode cX6_init 40 = .ok (.invokespecial 11, 3) := by decide +kernel
theorem dX6_init_43 : decode cX6_init 43 = .ok (.putfield 23, 3) := by decide +kernel
theorem dX6_init_46 : decode cX6_init 46 = .ok (.aload_n 0, 1) := by decide +kernel
theorem dX6_init_47 : decode cX6_init 47 = .ok (.new 7, 3) := by decide +kernel
theorem dX6_init_50 : decode cX6_init 50 = .ok (.dup, 1) := by decide +kernel
theorem dX6_init_51 : decode cX6_init 51 = .ok (.sipush 257, 3) := by decide +kernel
theorem dX6_init_54 : decode cX6_init 54 = .ok (.invokespecial 11, 3) := by decide +kernel
theorem dX6_init_57 : decode cX6_init 57 = .ok (.putfield 26, 3) := by decide +kernel
theorem dX6_init_60 : decode cX6_init 60 = .ok (.aload_n 0, 1) := by decide +kernel
theorem dX6_init_61 : decode cX6_init 61 = .ok (.new 21, 3) := by decide +kernel
theorem dX6_init_64 : decode cX6_init 64 = .ok (.dup, 1) := by decide +kernel
theorem dX6_init_65 : decode cX6_init 65 = .ok (.invokespecial 29, 3) := by decide +kernel
theorem dX6_init_68 : decode cX6_init 68 = .ok (.putfield 30, 3) := by decide +kernel
theorem dX6_init_71 : decode cX6_init 71 = .ok (.aload_n 0, 1) := by decide +kernel
theorem dX6_init_72 : decode cX6_init 72 = .ok (.new 21, 3) := by decide +kernel
theorem dX6_init_75 : decode cX6_init 75 = .ok (.dup, 1) := by decide +kernel
theorem dX6_init_76 : decode cX6_init 76 = .ok (.invokespecial 29, 3) := by decide +kernel
theorem dX6_init_79 : decode cX6_init 79 = .ok (.putfield 34, 3) := by decide +kernel
theorem dX6_init_82 : decode cX6_init 82 = .ok (.aload_n 0, 1) := by decide +kernel
theorem dX6_init_83 : decode cX6_init 83 = .ok (.new 21, 3) := by decide +kernel
theorem dX6_init_86 : decode cX6_init 86 = .ok (.dup, 1) := by decide +kernel
theorem dX6_init_87 : decode cX6_init 87 = .ok (.invokespecial 29, 3) := by decide +kernel
theorem dX6_init_90 : decode cX6_init 90 = .ok (.putfield 37, 3) := by decide +kernel
theorem dX6_init_93 : decode cX6_init 93 = .ok (.aload_n 0, 1) := by decide +kernel
theorem dX6_init_94 : decode cX6_init 94 = .ok (.new 40, 3) := by decide +kernel
theorem dX6_init_97 : decode cX6_init 97 = .ok (.dup, 1) := by decide +kernel
theorem dX6_init_98 : decode cX6_init 98 = .ok (.invokespecial 42, 3) := by decide +kernel
theorem dX6_init_101 : decode cX6_init 101 = .ok (.putfield 43, 3) := by decide +kernel
theorem dX6_init_104 : decode cX6_init 104 = .ok (.aload_n 0, 1) := by decide +kernel
theorem dX6_init_105 : decode cX6_init 105 = .ok (.new 47, 3) := by decide +kernel
theorem dX6_init_108 : decode cX6_init 108 = .ok (.dup, 1) := by decide +kernel
theorem dX6_init_109 : decode cX6_init 109 = .ok (.invokespecial 49, 3) := by decide +kernel
theorem dX6_init_112 : decode cX6_init 112 = .ok (.putfield 50, 3) := by decide +kernel
theorem dX6_init_115 : decode cX6_init 115 = .ok (.aload_n 0, 1) := by decide +kernel
theorem dX6_init_116 : decode cX6_init 116 = .ok (.bipush 24, 2) := by decide +kernel
theorem dX6_init_118 : decode cX6_init 118 = .ok (.anewarray 54, 3) := by decide +kernel
theorem dX6_init_121 : decode cX6_init 121 = .ok (.putfield 56, 3) := by decide +kernel
theorem dX6_init_124 : decode cX6_init 124 = .ok (.return_, 1) := by decide +kernel
theorem dX6_lamp_0 : decode cX6_lamp 0 = .ok (.iload_n 1, 1) := by decide +kernel
theorem dX6_lamp_1 : decode cX6_lamp 1 = .ok (.iconst 1, 1) := by decide +kernel
theorem dX6_lamp_2 : decode cX6_lamp 2 = .ok (.if_icmp .lt 24, 3) := by decide +kernel
theorem dX6_lamp_5 : decode cX6_lamp 5 = .ok (.iload_n 1, 1) := by decide +kernel
theorem dX6_lamp_6 : decode cX6_lamp 6 = .ok (.sipush 32767, 3) := by decide +kernel
theorem dX6_lamp_9 : decode cX6_lamp 9 = .ok (.if_icmp .gt 17, 3) := by decide +kernel
theorem dX6_lamp_12 : decode cX6_lamp 12 = .ok (.lload_n 2, 1) := by decide +kernel
theorem dX6_lamp_13 : decode cX6_lamp 13 = .ok (.lconst 0, 1) := by decide +kernel
theorem dX6_lamp_14 : decode cX6_lamp 14 = .ok (.lcmp, 1) := by decide +kernel
theorem dX6_lamp_15 : decode cX6_lamp 15 = .ok (.ifCond .lt 11, 3) := by decide +kernel
theorem dX6_lamp_18 : decode cX6_lamp 18 = .ok (.lload_n 2, 1) := by decide +kernel
theorem dX6_lamp_19 : decode cX6_lamp 19 = .ok (.ldc2_w 60, 3) := by decide +kernel
theorem dX6_lamp_22 : decode cX6_lamp 22 = .ok (.lcmp, 1) := by decide +kernel
theorem dX6_lamp_23 : decode cX6_lamp 23 = .ok (.ifCond .lt 13, 3) := by decide +kernel
theorem dX6_lamp_26 : decode cX6_lamp 26 = .ok (.new 62, 3) := by decide +kernel
theorem dX6_lamp_29 : decode cX6_lamp 29 = .ok (.dup, 1) := by decide +kernel
theorem dX6_lamp_30 : decode cX6_lamp 30 = .ok (.ldc 64, 2) := by decide +kernel
theorem dX6_lamp_32 : decode cX6_lamp 32 = .ok (.invokespecial 66, 3) := by decide +kernel
theorem dX6_lamp_35 : decode cX6_lamp 35 = .ok (.athrow, 1) := by decide +kernel
theorem dX6_lamp_36 : decode cX6_lamp 36 = .ok (.iload 4, 2) := by decide +kernel
theorem dX6_lamp_38 : decode cX6_lamp 38 = .ok (.iconst 1, 1) := by decide +kernel
theorem dX6_lamp_39 : decode cX6_lamp 39 = .ok (.if_icmp .lt 23, 3) := by decide +kernel
theorem dX6_lamp_42 : decode cX6_lamp 42 = .ok (.iload 4, 2) := by decide +kernel
theorem dX6_lamp_44 : decode cX6_lamp 44 = .ok (.bipush 64, 2) := by decide +kernel
theorem dX6_lamp_46 : decode cX6_lamp 46 = .ok (.if_icmp .gt 16, 3) := by decide +kernel
theorem dX6_lamp_49 : decode cX6_lamp 49 = .ok (.iload 5, 2) := by decide +kernel
theorem dX6_lamp_51 : decode cX6_lamp 51 = .ok (.iconst 1, 1) := by decide +kernel
theorem dX6_lamp_52 : decode cX6_lamp 52 = .ok (.if_icmp .lt 10, 3) := by decide +kernel
theorem dX6_lamp_55 : decode cX6_lamp 55 = .ok (.iload 5, 2) := by decide +kernel
theorem dX6_lamp_57 : decode cX6_lamp 57 = .ok (.bipush 8, 2) := by decide +kernel
theorem dX6_lamp_59 : decode cX6_lamp 59 = .ok (.if_icmp .le 13, 3) := by decide +kernel
theorem dX6_lamp_62 : decode cX6_lamp 62 = .ok (.new 62, 3) := by decide +kernel
theorem dX6_lamp_65 : decode cX6_lamp 65 = .ok (.dup, 1) := by decide +kernel
theorem dX6_lamp_66 : decode cX6_lamp 66 = .ok (.ldc 69, 2) := by decide +kernel
theorem dX6_lamp_68 : decode cX6_lamp 68 = .ok (.invokespecial 66, 3) := by decide +kernel
theorem dX6_lamp_71 : decode cX6_lamp 71 = .ok (.athrow, 1) := by decide +kernel
theorem dX6_lamp_72 : decode cX6_lamp 72 = .ok (.iload 6, 2) := by decide +kernel
theorem dX6_lamp_74 : decode cX6_lamp 74 = .ok (.iload 4, 2) := by decide +kernel
theorem dX6_lamp_76 : decode cX6_lamp 76 = .ok (.invokestatic 71, 3) := by decide +kernel
theorem dX6_lamp_79 : decode cX6_lamp 79 = .ok (.ifCond .ne 13, 3) := by decide +kernel
theorem dX6_lamp_82 : decode cX6_lamp 82 = .ok (.new 62, 3) := by decide +kernel
theorem dX6_lamp_85 : decode cX6_lamp 85 = .ok (.dup, 1) := by decide +kernel
theorem dX6_lamp_86 : decode cX6_lamp 86 = .ok (.ldc 75, 2) := by decide +kernel
theorem dX6_lamp_88 : decode cX6_lamp 88 = .ok (.invokespecial 66, 3) := by decide +kernel
theorem dX6_lamp_91 : decode cX6_lamp 91 = .ok (.athrow, 1) := by decide +kernel
theorem dX6_lamp_92 : decode cX6_lamp 92 = .ok (.iload_n 1, 1) := by decide +kernel
theorem dX6_lamp_93 : decode cX6_lamp 93 = .ok (.lload_n 2, 1) := by decide +kernel
theorem dX6_lamp_94 : decode cX6_lamp 94 = .ok (.invokestatic 77, 3) := by decide +kernel
theorem dX6_lamp_97 : decode cX6_lamp 97 = .ok (.lstore 7, 2) := by decide +kernel
theorem dX6_lamp_99 : decode cX6_lamp 99 = .ok (.aload_n 0, 1) := by decide +kernel
theorem dX6_lamp_100 : decode cX6_lamp 100 = .ok (.lload 7, 2) := by decide +kernel
theorem dX6_lamp_102 : decode cX6_lamp 102 = .ok (.invokevirtual 81, 3) := by decide +kernel
theorem dX6_lamp_105 : decode cX6_lamp 105 = .ok (.ifCond .eq 13, 3) := by decide +kernel
theorem dX6_lamp_108 : decode cX6_lamp 108 = .ok (.new 62, 3) := by decide +kernel
theorem dX6_lamp_111 : decode cX6_lamp 111 = .ok (.dup, 1) := by decide +kernel
theorem dX6_lamp_112 : decode cX6_lamp 112 = .ok (.ldc 85, 2) := by decide +kernel
theorem dX6_lamp_114 : decode cX6_lamp 114 = .ok (.invokespecial 66, 3) := by decide +kernel
theorem dX6_lamp_117 : decode cX6_lamp 117 = .ok (.athrow, 1) := by decide +kernel
theorem dX6_lamp_118 : decode cX6_lamp 118 = .ok (.aload_n 0, 1) := by decide +kernel
theorem dX6_lamp_119 : decode cX6_lamp 119 = .ok (.getfield 87, 3) := by decide +kernel
theorem dX6_lamp_122 : decode cX6_lamp 122 = .ok (.bipush 24, 2) := by decide +kernel
theorem dX6_lamp_124 : decode cX6_lamp 124 = .ok (.if_icmp .lt 13, 3) := by decide +kernel
theorem dX6_lamp_127 : decode cX6_lamp 127 = .ok (.new 91, 3) := by decide +kernel
theorem dX6_lamp_130 : decode cX6_lamp 130 = .ok (.dup, 1) := by decide +kernel
theorem dX6_lamp_131 : decode cX6_lamp 131 = .ok (.ldc 93, 2) := by decide +kernel
theorem dX6_lamp_133 : decode cX6_lamp 133 = .ok (.invokespecial 95, 3) := by decide +kernel
theorem dX6_lamp_136 : decode cX6_lamp 136 = .ok (.athrow, 1) := by decide +kernel
theorem dX6_lamp_137 : decode cX6_lamp 137 = .ok (.aload_n 0, 1) := by decide +kernel
theorem dX6_lamp_138 : decode cX6_lamp 138 = .ok (.getfield 56, 3) := by decide +kernel
theorem dX6_lamp_141 : decode cX6_lamp 141 = .ok (.aload_n 0, 1) := by decide +kernel
theorem dX6_lamp_142 : decode cX6_lamp 142 = .ok (.getfield 87, 3) := by decide +kernel
theorem dX6_lamp_145 : decode cX6_lamp 145 = .ok (.new 54, 3) := by decide +kernel
theorem dX6_lamp_148 : decode cX6_lamp 148 = .ok (.dup, 1) := by decide +kernel
theorem dX6_lamp_149 : decode cX6_lamp 149 = .ok (.lload 7, 2) := by decide +kernel
theorem dX6_lamp_151 : decode cX6_lamp 151 = .ok (.iload 4, 2) := by decide +kernel
theorem dX6_lamp_153 : decode cX6_lamp 153 = .ok (.iload 5, 2) := by decide +kernel
theorem dX6_lamp_155 : decode cX6_lamp 155 = .ok (.iload 6, 2) := by decide +kernel
theorem dX6_lamp_157 : decode cX6_lamp 157 = .ok (.invokespecial 96, 3) := by decide +kernel
theorem dX6_lamp_160 : decode cX6_lamp 160 = .ok (.aastore, 1) := by decide +kernel
theorem dX6_lamp_161 : decode cX6_lamp 161 = .ok (.aload_n 0, 1) := by decide +kernel
theorem dX6_lamp_162 : decode cX6_lamp 162 = .ok (.dup, 1) := by decide +kernel
theorem dX6_lamp_163 : decode cX6_lamp 163 = .ok (.getfield 87, 3) := by decide +kernel
theorem dX6_lamp_166 : decode cX6_lamp 166 = .ok (.iconst 1, 1) := by decide +kernel
theorem dX6_lamp_167 : decode cX6_lamp 167 = .ok (.iadd, 1) := by decide +kernel
theorem dX6_lamp_168 : decode cX6_lamp 168 = .ok (.putfield 87, 3) := by decide +kernel
theorem dX6_lamp_171 : decode cX6_lamp 171 = .ok (.aload_n 0, 1) := by decide +kernel
theorem dX6_lamp_172 : decode cX6_lamp 172 = .ok (.getfield 87, 3) := by decide +kernel
theorem dX6_lamp_175 : decode cX6_lamp 175 = .ok (.iconst 1, 1) := by decide +kernel
theorem dX6_lamp_176 : decode cX6_lamp 176 = .ok (.isub, 1) := by decide +kernel
theorem dX6_lamp_177 : decode cX6_lamp 177 = .ok (.ireturn, 1) := by decide +kernel
theorem dX6_feed_0 : decode cX6_feed 0 = .ok (.aload_n 0, 1) := by decide +kernel
theorem dX6_feed_1 : decode cX6_feed 1 = .ok (.getfield 14, 3) := by decide +kernel
theorem dX6_feed_4 : decode cX6_feed 4 = .ok (.invokevirtual 99, 3) := by decide +kernel
theorem dX6_feed_7 : decode cX6_feed 7 = .ok (.bipush 20, 2) := by decide +kernel
theorem dX6_feed_9 : decode cX6_feed 9 = .ok (.iadd, 1) := by decide +kernel
theorem dX6_feed_10 : decode cX6_feed 10 = .ok (.sipush 520, 3) := by decide +kernel
theorem dX6_feed_13 : decode cX6_feed 13 = .ok (.if_icmp .le 13, 3) := by decide +kernel
theorem dX6_feed_16 : decode cX6_feed 16 = .ok (.new 91, 3) := by decide +kernel
theorem dX6_feed_19 : decode cX6_feed 19 = .ok (.dup, 1) := by decide +kernel
theorem dX6_feed_20 : decode cX6_feed 20 = .ok (.ldc 103, 2) := by decide +kernel
theorem dX6_feed_22 : decode cX6_feed 22 = .ok (.invokespecial 95, 3) := by decide +kernel
theorem dX6_feed_25 : decode cX6_feed 25 = .ok (.athrow, 1) := by decide +kernel
theorem dX6_feed_26 : decode cX6_feed 26 = .ok (.aload_n 0, 1) := by decide +kernel
theorem dX6_feed_27 : decode cX6_feed 27 = .ok (.getfield 14, 3) := by decide +kernel
theorem dX6_feed_30 : decode cX6_feed 30 = .ok (.iload_n 1, 1) := by decide +kernel
theorem dX6_feed_31 : decode cX6_feed 31 = .ok (.i2l, 1) := by decide +kernel
theorem dX6_feed_32 : decode cX6_feed 32 = .ok (.iconst 4, 1) := by decide +kernel
theorem dX6_feed_33 : decode cX6_feed 33 = .ok (.invokevirtual 105, 3) := by decide +kernel
theorem dX6_feed_36 : decode cX6_feed 36 = .ok (.aload_n 0, 1) := by decide +kernel
theorem dX6_feed_37 : decode cX6_feed 37 = .ok (.getfield 14, 3) := by decide +kernel
theorem dX6_feed_40 : decode cX6_feed 40 = .ok (.iload_n 2, 1) := by decide +kernel
theorem dX6_feed_41 : decode cX6_feed 41 = .ok (.i2l, 1) := by decide +kernel
theorem dX6_feed_42 : decode cX6_feed 42 = .ok (.iconst 4, 1) := by decide +kernel
theorem dX6_feed_43 : decode cX6_feed 43 = .ok (.invokevirtual 105, 3) := by decide +kernel
theorem dX6_feed_46 : decode cX6_feed 46 = .ok (.aload_n 0, 1) := by decide +kernel
theorem dX6_feed_47 : decode cX6_feed 47 = .ok (.getfield 14, 3) := by decide +kernel
theorem dX6_feed_50 : decode cX6_feed 50 = .ok (.iload_n 3, 1) := by decide +kernel
theorem dX6_feed_51 : decode cX6_feed 51 = .ok (.i2l, 1) := by decide +kernel
theorem dX6_feed_52 : decode cX6_feed 52 = .ok (.iconst 4, 1) := by decide +kernel
theorem dX6_feed_53 : decode cX6_feed 53 = .ok (.invokevirtual 105, 3) := by decide +kernel
theorem dX6_feed_56 : decode cX6_feed 56 = .ok (.aload_n 0, 1) := by decide +kernel
theorem dX6_feed_57 : decode cX6_feed 57 = .ok (.getfield 14, 3) := by decide +kernel
theorem dX6_feed_60 : decode cX6_feed 60 = .ok (.iload 4, 2) := by decide +kernel
theorem dX6_feed_62 : decode cX6_feed 62 = .ok (.i2l, 1) := by decide +kernel
theorem dX6_feed_63 : decode cX6_feed 63 = .ok (.iconst 4, 1) := by decide +kernel
theorem dX6_feed_64 : decode cX6_feed 64 = .ok (.invokevirtual 105, 3) := by decide +kernel
theorem dX6_feed_67 : decode cX6_feed 67 = .ok (.aload_n 0, 1) := by decide +kernel
theorem dX6_feed_68 : decode cX6_feed 68 = .ok (.getfield 14, 3) := by decide +kernel
theorem dX6_feed_71 : decode cX6_feed 71 = .ok (.iload 5, 2) := by decide +kernel
theorem dX6_feed_73 : decode cX6_feed 73 = .ok (.i2l, 1) := by decide +kernel
theorem dX6_feed_74 : decode cX6_feed 74 = .ok (.iconst 4, 1) := by decide +kernel
theorem dX6_feed_75 : decode cX6_feed 75 = .ok (.invokevirtual 105, 3) := by decide +kernel
theorem dX6_feed_78 : decode cX6_feed 78 = .ok (.aload_n 0, 1) := by decide +kernel
theorem dX6_feed_79 : decode cX6_feed 79 = .ok (.getfield 14, 3) := by decide +kernel
theorem dX6_feed_82 : decode cX6_feed 82 = .ok (.invokevirtual 99, 3) := by decide +kernel
theorem dX6_feed_85 : decode cX6_feed 85 = .ok (.ireturn, 1) := by decide +kernel
theorem dX6_end_0 : decode cX6_end 0 = .ok (.iload_n 1, 1) := by decide +kernel
theorem dX6_end_1 : decode cX6_end 1 = .ok (.ifCond .lt 14, 3) := by decide +kernel
theorem dX6_end_4 : decode cX6_end 4 = .ok (.iload_n 1, 1) := by decide +kernel
theorem dX6_end_5 : decode cX6_end 5 = .ok (.aload_n 0, 1) := by decide +kernel
theorem dX6_end_6 : decode cX6_end 6 = .ok (.getfield 14, 3) := by decide +kernel
theorem dX6_end_9 : decode cX6_end 9 = .ok (.invokevirtual 99, 3) := by decide +kernel
theorem dX6_end_12 : decode cX6_end 12 = .ok (.if_icmp .le 13, 3) := by decide +kernel
theorem dX6_end_15 : decode cX6_end 15 = .ok (.new 62, 3) := by decide +kernel
theorem dX6_end_18 : decode cX6_end 18 = .ok (.dup, 1) := by decide +kernel
theorem dX6_end_19 : decode cX6_end 19 = .ok (.ldc 109, 2) := by decide +kernel
theorem dX6_end_21 : decode cX6_end 21 = .ok (.invokespecial 66, 3) := by decide +kernel
theorem dX6_end_24 : decode cX6_end 24 = .ok (.athrow, 1) := by decide +kernel
theorem dX6_end_25 : decode cX6_end 25 = .ok (.aload_n 0, 1) := by decide +kernel
theorem dX6_end_26 : decode cX6_end 26 = .ok (.getfield 14, 3) := by decide +kernel
theorem dX6_end_29 : decode cX6_end 29 = .ok (.iload_n 1, 1) := by decide +kernel
theorem dX6_end_30 : decode cX6_end 30 = .ok (.invokevirtual 111, 3) := by decide +kernel
theorem dX6_end_33 : decode cX6_end 33 = .ok (.return_, 1) := by decide +kernel
theorem dX6_send_0 : decode cX6_send 0 = .ok (.aload_n 0, 1) := by decide +kernel
theorem dX6_send_1 : decode cX6_send 1 = .ok (.getfield 18, 3) := by decide +kernel
theorem dX6_send_4 : decode cX6_send 4 = .ok (.aload_n 0, 1) := by decide +kernel
theorem dX6_send_5 : decode cX6_send 5 = .ok (.getfield 14, 3) := by decide +kernel
theorem dX6_send_8 : decode cX6_send 8 = .ok (.invokevirtual 114, 3) := by decide +kernel
theorem dX6_send_11 : decode cX6_send 11 = .ok (.aload_n 0, 1) := by decide +kernel
theorem dX6_send_12 : decode cX6_send 12 = .ok (.getfield 14, 3) := by decide +kernel
theorem dX6_send_15 : decode cX6_send 15 = .ok (.iconst 0, 1) := by decide +kernel
theorem dX6_send_16 : decode cX6_send 16 = .ok (.invokevirtual 111, 3) := by decide +kernel
theorem dX6_send_19 : decode cX6_send 19 = .ok (.aload_n 0, 1) := by decide +kernel
theorem dX6_send_20 : decode cX6_send 20 = .ok (.invokevirtual 118, 3) := by decide +kernel
theorem dX6_send_23 : decode cX6_send 23 = .ok (.aload_n 0, 1) := by decide +kernel
theorem dX6_send_24 : decode cX6_send 24 = .ok (.getfield 26, 3) := by decide +kernel
theorem dX6_send_27 : decode cX6_send 27 = .ok (.invokevirtual 99, 3) := by decide +kernel
theorem dX6_send_30 : decode cX6_send 30 = .ok (.ireturn, 1) := by decide +kernel
theorem dX6_answer_0 : decode cX6_answer 0 = .ok (.iload_n 1, 1) := by decide +kernel
theorem dX6_answer_1 : decode cX6_answer 1 = .ok (.ifCond .lt 14, 3) := by decide +kernel
theorem dX6_answer_4 : decode cX6_answer 4 = .ok (.iload_n 1, 1) := by decide +kernel
theorem dX6_answer_5 : decode cX6_answer 5 = .ok (.aload_n 0, 1) := by decide +kernel
theorem dX6_answer_6 : decode cX6_answer 6 = .ok (.getfield 26, 3) := by decide +kernel
theorem dX6_answer_9 : decode cX6_answer 9 = .ok (.invokevirtual 99, 3) := by decide +kernel
theorem dX6_answer_12 : decode cX6_answer 12 = .ok (.if_icmp .lt 13, 3) := by decide +kernel
theorem dX6_answer_15 : decode cX6_answer 15 = .ok (.new 121, 3) := by decide +kernel
theorem dX6_answer_18 : decode cX6_answer 18 = .ok (.dup, 1) := by decide +kernel
theorem dX6_answer_19 : decode cX6_answer 19 = .ok (.ldc 123, 2) := by decide +kernel
theorem dX6_answer_21 : decode cX6_answer 21 = .ok (.invokespecial 125, 3) := by decide +kernel
theorem dX6_answer_24 : decode cX6_answer 24 = .ok (.athrow, 1) := by decide +kernel
theorem dX6_answer_25 : decode cX6_answer 25 = .ok (.aload_n 0, 1) := by decide +kernel
theorem dX6_answer_26 : decode cX6_answer 26 = .ok (.getfield 26, 3) := by decide +kernel
theorem dX6_answer_29 : decode cX6_answer 29 = .ok (.iload_n 1, 1) := by decide +kernel
theorem dX6_answer_30 : decode cX6_answer 30 = .ok (.invokevirtual 126, 3) := by decide +kernel
theorem dX6_answer_33 : decode cX6_answer 33 = .ok (.ireturn, 1) := by decide +kernel
theorem dX6_ask_0 : decode cX6_ask 0 = .ok (.iload_n 1, 1) := by decide +kernel
theorem dX6_ask_1 : decode cX6_ask 1 = .ok (.ifCond .lt 23, 3) := by decide +kernel
theorem dX6_ask_4 : decode cX6_ask 4 = .ok (.iload_n 1, 1) := by decide +kernel
theorem dX6_ask_5 : decode cX6_ask 5 = .ok (.ldc 130, 2) := by decide +kernel
theorem dX6_ask_7 : decode cX6_ask 7 = .ok (.if_icmp .gt 17, 3) := by decide +kernel
theorem dX6_ask_10 : decode cX6_ask 10 = .ok (.lload_n 2, 1) := by decide +kernel
theorem dX6_ask_11 : decode cX6_ask 11 = .ok (.lconst 0, 1) := by decide +kernel
theorem dX6_ask_12 : decode cX6_ask 12 = .ok (.lcmp, 1) := by decide +kernel
theorem dX6_ask_13 : decode cX6_ask 13 = .ok (.ifCond .lt 11, 3) := by decide +kernel
theorem dX6_ask_16 : decode cX6_ask 16 = .ok (.lload_n 2, 1) := by decide +kernel
theorem dX6_ask_17 : decode cX6_ask 17 = .ok (.ldc2_w 60, 3) := by decide +kernel
theorem dX6_ask_20 : decode cX6_ask 20 = .ok (.lcmp, 1) := by decide +kernel
theorem dX6_ask_21 : decode cX6_ask 21 = .ok (.ifCond .le 13, 3) := by decide +kernel
theorem dX6_ask_24 : decode cX6_ask 24 = .ok (.new 62, 3) := by decide +kernel
theorem dX6_ask_27 : decode cX6_ask 27 = .ok (.dup, 1) := by decide +kernel
theorem dX6_ask_28 : decode cX6_ask 28 = .ok (.ldc 131, 2) := by decide +kernel
theorem dX6_ask_30 : decode cX6_ask 30 = .ok (.invokespecial 66, 3) := by decide +kernel
theorem dX6_ask_33 : decode cX6_ask 33 = .ok (.athrow, 1) := by decide +kernel
theorem dX6_ask_34 : decode cX6_ask 34 = .ok (.iload 4, 2) := by decide +kernel
theorem dX6_ask_36 : decode cX6_ask 36 = .ok (.ifCond .lt 35, 3) := by decide +kernel
theorem dX6_ask_39 : decode cX6_ask 39 = .ok (.iload 4, 2) := by decide +kernel
theorem dX6_ask_41 : decode cX6_ask 41 = .ok (.ldc 130, 2) := by decide +kernel
theorem dX6_ask_43 : decode cX6_ask 43 = .ok (.if_icmp .gt 28, 3) := by decide +kernel
theorem dX6_ask_46 : decode cX6_ask 46 = .ok (.iload 5, 2) := by decide +kernel
theorem dX6_ask_48 : decode cX6_ask 48 = .ok (.ifCond .lt 23, 3) := by decide +kernel
theorem dX6_ask_51 : decode cX6_ask 51 = .ok (.iload 5, 2) := by decide +kernel
theorem dX6_ask_53 : decode cX6_ask 53 = .ok (.sipush 255, 3) := by decide +kernel
theorem dX6_ask_56 : decode cX6_ask 56 = .ok (.if_icmp .gt 15, 3) := by decide +kernel
theorem dX6_ask_59 : decode cX6_ask 59 = .ok (.iload 6, 2) := by decide +kernel
theorem dX6_ask_61 : decode cX6_ask 61 = .ok (.ifCond .lt 10, 3) := by decide +kernel
theorem dX6_ask_64 : decode cX6_ask 64 = .ok (.iload 6, 2) := by decide +kernel
theorem dX6_ask_66 : decode cX6_ask 66 = .ok (.ldc 130, 2) := by decide +kernel
theorem dX6_ask_68 : decode cX6_ask 68 = .ok (.if_icmp .le 13, 3) := by decide +kernel
theorem dX6_ask_71 : decode cX6_ask 71 = .ok (.new 62, 3) := by decide +kernel
theorem dX6_ask_74 : decode cX6_ask 74 = .ok (.dup, 1) := by decide +kernel
theorem dX6_ask_75 : decode cX6_ask 75 = .ok (.ldc 133, 2) := by decide +kernel
theorem dX6_ask_77 : decode cX6_ask 77 = .ok (.invokespecial 66, 3) := by decide +kernel
theorem dX6_ask_80 : decode cX6_ask 80 = .ok (.athrow, 1) := by decide +kernel
theorem dX6_ask_81 : decode cX6_ask 81 = .ok (.iload_n 1, 1) := by decide +kernel
theorem dX6_ask_82 : decode cX6_ask 82 = .ok (.lload_n 2, 1) := by decide +kernel
theorem dX6_ask_83 : decode cX6_ask 83 = .ok (.invokestatic 77, 3) := by decide +kernel
theorem dX6_ask_86 : decode cX6_ask 86 = .ok (.lstore 7, 2) := by decide +kernel
theorem dX6_ask_88 : decode cX6_ask 88 = .ok (.aload_n 0, 1) := by decide +kernel
theorem dX6_ask_89 : decode cX6_ask 89 = .ok (.lload 7, 2) := by decide +kernel
theorem dX6_ask_91 : decode cX6_ask 91 = .ok (.iload 5, 2) := by decide +kernel
theorem dX6_ask_93 : decode cX6_ask 93 = .ok (.iload 6, 2) := by decide +kernel
theorem dX6_ask_95 : decode cX6_ask 95 = .ok (.invokevirtual 135, 3) := by decide +kernel
theorem dX6_ask_98 : decode cX6_ask 98 = .ok (.aload_n 0, 1) := by decide +kernel
theorem dX6_ask_99 : decode cX6_ask 99 = .ok (.getfield 30, 3) := by decide +kernel
theorem dX6_ask_102 : decode cX6_ask 102 = .ok (.iload 4, 2) := by decide +kernel
theorem dX6_ask_104 : decode cX6_ask 104 = .ok (.putfield 139, 3) := by decide +kernel
theorem dX6_ask_107 : decode cX6_ask 107 = .ok (.aload_n 0, 1) := by decide +kernel
theorem dX6_ask_108 : decode cX6_ask 108 = .ok (.getfield 30, 3) := by decide +kernel
theorem dX6_ask_111 : decode cX6_ask 111 = .ok (.getfield 142, 3) := by decide +kernel
theorem dX6_ask_114 : decode cX6_ask 114 = .ok (.aload_n 0, 1) := by decide +kernel
theorem dX6_ask_115 : decode cX6_ask 115 = .ok (.getfield 14, 3) := by decide +kernel
theorem dX6_ask_118 : decode cX6_ask 118 = .ok (.invokevirtual 114, 3) := by decide +kernel
theorem dX6_ask_121 : decode cX6_ask 121 = .ok (.aload_n 0, 1) := by decide +kernel
theorem dX6_ask_122 : decode cX6_ask 122 = .ok (.getfield 14, 3) := by decide +kernel
theorem dX6_ask_125 : decode cX6_ask 125 = .ok (.iconst 0, 1) := by decide +kernel
theorem dX6_ask_126 : decode cX6_ask 126 = .ok (.invokevirtual 111, 3) := by decide +kernel
theorem dX6_ask_129 : decode cX6_ask 129 = .ok (.aload_n 0, 1) := by decide +kernel
theorem dX6_ask_130 : decode cX6_ask 130 = .ok (.getfield 30, 3) := by decide +kernel
theorem dX6_ask_133 : decode cX6_ask 133 = .ok (.aload_n 0, 1) := by decide +kernel
theorem dX6_ask_134 : decode cX6_ask 134 = .ok (.getfield 18, 3) := by decide +kernel
theorem dX6_ask_137 : decode cX6_ask 137 = .ok (.invokevirtual 145, 3) := by decide +kernel
theorem dX6_ask_140 : decode cX6_ask 140 = .ok (.aload_n 0, 1) := by decide +kernel
theorem dX6_ask_141 : decode cX6_ask 141 = .ok (.invokevirtual 118, 3) := by decide +kernel
theorem dX6_ask_144 : decode cX6_ask 144 = .ok (.aload_n 0, 1) := by decide +kernel
theorem dX6_ask_145 : decode cX6_ask 145 = .ok (.getfield 26, 3) := by decide +kernel
theorem dX6_ask_148 : decode cX6_ask 148 = .ok (.invokevirtual 99, 3) := by decide +kernel
theorem dX6_ask_151 : decode cX6_ask 151 = .ok (.ifCond .ne 5, 3) := by decide +kernel
theorem dX6_ask_154 : decode cX6_ask 154 = .ok (.iconst (-1), 1) := by decide +kernel
theorem dX6_ask_155 : decode cX6_ask 155 = .ok (.ireturn, 1) := by decide +kernel
theorem dX6_ask_156 : decode cX6_ask 156 = .ok (.aload_n 0, 1) := by decide +kernel
theorem dX6_ask_157 : decode cX6_ask 157 = .ok (.lload 7, 2) := by decide +kernel
theorem dX6_ask_159 : decode cX6_ask 159 = .ok (.invokevirtual 148, 3) := by decide +kernel
theorem dX6_ask_162 : decode cX6_ask 162 = .ok (.ifCond .eq 13, 3) := by decide +kernel
theorem dX6_ask_165 : decode cX6_ask 165 = .ok (.aload_n 0, 1) := by decide +kernel
theorem dX6_ask_166 : decode cX6_ask 166 = .ok (.getfield 34, 3) := by decide +kernel
theorem dX6_ask_169 : decode cX6_ask 169 = .ok (.getfield 151, 3) := by decide +kernel
theorem dX6_ask_172 : decode cX6_ask 172 = .ok (.goto 5, 3) := by decide +kernel
theorem dX6_ask_175 : decode cX6_ask 175 = .ok (.bipush (-2), 2) := by decide +kernel
theorem dX6_ask_177 : decode cX6_ask 177 = .ok (.ireturn, 1) := by decide +kernel
theorem dX6_spoil_0 : decode cX6_spoil 0 = .ok (.iload_n 1, 1) := by decide +kernel
theorem dX6_spoil_1 : decode cX6_spoil 1 = .ok (.ifCond .lt 10, 3) := by decide +kernel
theorem dX6_spoil_4 : decode cX6_spoil 4 = .ok (.iload_n 1, 1) := by decide +kernel
theorem dX6_spoil_5 : decode cX6_spoil 5 = .ok (.sipush 300, 3) := by decide +kernel
theorem dX6_spoil_8 : decode cX6_spoil 8 = .ok (.if_icmp .le 13, 3) := by decide +kernel
theorem dX6_spoil_11 : decode cX6_spoil 11 = .ok (.new 62, 3) := by decide +kernel
theorem dX6_spoil_14 : decode cX6_spoil 14 = .ok (.dup, 1) := by decide +kernel
theorem dX6_spoil_15 : decode cX6_spoil 15 = .ok (.ldc 154, 2) := by decide +kernel
theorem dX6_spoil_17 : decode cX6_spoil 17 = .ok (.invokespecial 66, 3) := by decide +kernel
theorem dX6_spoil_20 : decode cX6_spoil 20 = .ok (.athrow, 1) := by decide +kernel
theorem dX6_spoil_21 : decode cX6_spoil 21 = .ok (.aload_n 0, 1) := by decide +kernel
theorem dX6_spoil_22 : decode cX6_spoil 22 = .ok (.getfield 43, 3) := by decide +kernel
theorem dX6_spoil_25 : decode cX6_spoil 25 = .ok (.iload_n 1, 1) := by decide +kernel
theorem dX6_spoil_26 : decode cX6_spoil 26 = .ok (.iload_n 2, 1) := by decide +kernel
theorem dX6_spoil_27 : decode cX6_spoil 27 = .ok (.invokevirtual 156, 3) := by decide +kernel
theorem dX6_spoil_30 : decode cX6_spoil 30 = .ok (.return_, 1) := by decide +kernel
theorem dX6_frames_0 : decode cX6_frames 0 = .ok (.aload_n 0, 1) := by decide +kernel
theorem dX6_frames_1 : decode cX6_frames 1 = .ok (.getfield 160, 3) := by decide +kernel
theorem dX6_frames_4 : decode cX6_frames 4 = .ok (.ireturn, 1) := by decide +kernel
theorem dX6_about_0 : decode cX6_about 0 = .ok (.aload_n 0, 1) := by decide +kernel
theorem dX6_about_1 : decode cX6_about 1 = .ok (.iload_n 1, 1) := by decide +kernel
theorem dX6_about_2 : decode cX6_about 2 = .ok (.invokevirtual 163, 3) := by decide +kernel
theorem dX6_about_5 : decode cX6_about 5 = .ok (.astore_n 3, 1) := by decide +kernel
theorem dX6_about_6 : decode cX6_about 6 = .ok (.iload_n 2, 1) := by decide +kernel
theorem dX6_about_7 : decode cX6_about 7 = .ok (.ifCond .lt 9, 3) := by decide +kernel
theorem dX6_about_10 : decode cX6_about 10 = .ok (.iload_n 2, 1) := by decide +kernel
theorem dX6_about_11 : decode cX6_about 11 = .ok (.bipush 10, 2) := by decide +kernel
theorem dX6_about_13 : decode cX6_about 13 = .ok (.if_icmp .le 13, 3) := by decide +kernel
theorem dX6_about_16 : decode cX6_about 16 = .ok (.new 121, 3) := by decide +kernel
theorem dX6_about_19 : decode cX6_about 19 = .ok (.dup, 1) := by decide +kernel
theorem dX6_about_20 : decode cX6_about 20 = .ok (.ldc 167, 2) := by decide +kernel
theorem dX6_about_22 : decode cX6_about 22 = .ok (.invokespecial 125, 3) := by decide +kernel
theorem dX6_about_25 : decode cX6_about 25 = .ok (.athrow, 1) := by decide +kernel
theorem dX6_about_26 : decode cX6_about 26 = .ok (.aload_n 3, 1) := by decide +kernel
theorem dX6_about_27 : decode cX6_about 27 = .ok (.iload_n 2, 1) := by decide +kernel
theorem dX6_about_28 : decode cX6_about 28 = .ok (.aload_n 0, 1) := by decide +kernel
theorem dX6_about_29 : decode cX6_about 29 = .ok (.getfield 160, 3) := by decide +kernel
theorem dX6_about_32 : decode cX6_about 32 = .ok (.invokevirtual 169, 3) := by decide +kernel
theorem dX6_about_35 : decode cX6_about 35 = .ok (.ireturn, 1) := by decide +kernel
theorem dX6_rest_0 : decode cX6_rest 0 = .ok (.aload_n 0, 1) := by decide +kernel
theorem dX6_rest_1 : decode cX6_rest 1 = .ok (.iload_n 1, 1) := by decide +kernel
theorem dX6_rest_2 : decode cX6_rest 2 = .ok (.invokevirtual 163, 3) := by decide +kernel
theorem dX6_rest_5 : decode cX6_rest 5 = .ok (.getfield 173, 3) := by decide +kernel
theorem dX6_rest_8 : decode cX6_rest 8 = .ok (.invokestatic 177, 3) := by decide +kernel
theorem dX6_rest_11 : decode cX6_rest 11 = .ok (.lreturn, 1) := by decide +kernel
theorem dX6_level_0 : decode cX6_level 0 = .ok (.aload_n 0, 1) := by decide +kernel
theorem dX6_level_1 : decode cX6_level 1 = .ok (.iload_n 1, 1) := by decide +kernel
theorem dX6_level_2 : decode cX6_level 2 = .ok (.invokevirtual 163, 3) := by decide +kernel
theorem dX6_level_5 : decode cX6_level 5 = .ok (.astore_n 3, 1) := by decide +kernel
theorem dX6_level_6 : decode cX6_level 6 = .ok (.iload_n 2, 1) := by decide +kernel
theorem dX6_level_7 : decode cX6_level 7 = .ok (.ifCond .lt 11, 3) := by decide +kernel
theorem dX6_level_10 : decode cX6_level 10 = .ok (.iload_n 2, 1) := by decide +kernel
theorem dX6_level_11 : decode cX6_level 11 = .ok (.aload_n 3, 1) := by decide +kernel
theorem dX6_level_12 : decode cX6_level 12 = .ok (.invokevirtual 181, 3) := by decide +kernel
theorem dX6_level_15 : decode cX6_level 15 = .ok (.if_icmp .lt 13, 3) := by decide +kernel
theorem dX6_level_18 : decode cX6_level 18 = .ok (.new 121, 3) := by decide +kernel
theorem dX6_level_21 : decode cX6_level 21 = .ok (.dup, 1) := by decide +kernel
theorem dX6_level_22 : decode cX6_level 22 = .ok (.ldc 184, 2) := by decide +kernel
theorem dX6_level_24 : decode cX6_level 24 = .ok (.invokespecial 125, 3) := by decide +kernel
theorem dX6_level_27 : decode cX6_level 27 = .ok (.athrow, 1) := by decide +kernel
theorem dX6_level_28 : decode cX6_level 28 = .ok (.aload_n 3, 1) := by decide +kernel
theorem dX6_level_29 : decode cX6_level 29 = .ok (.iload_n 2, 1) := by decide +kernel
theorem dX6_level_30 : decode cX6_level 30 = .ok (.invokevirtual 186, 3) := by decide +kernel
theorem dX6_level_33 : decode cX6_level 33 = .ok (.ireturn, 1) := by decide +kernel
theorem dX6_label_0 : decode cX6_label 0 = .ok (.aload_n 0, 1) := by decide +kernel
theorem dX6_label_1 : decode cX6_label 1 = .ok (.iload_n 1, 1) := by decide +kernel
theorem dX6_label_2 : decode cX6_label 2 = .ok (.invokevirtual 163, 3) := by decide +kernel
theorem dX6_label_5 : decode cX6_label 5 = .ok (.astore_n 3, 1) := by decide +kernel
theorem dX6_label_6 : decode cX6_label 6 = .ok (.iload_n 2, 1) := by decide +kernel
theorem dX6_label_7 : decode cX6_label 7 = .ok (.ifCond .lt 14, 3) := by decide +kernel
theorem dX6_label_10 : decode cX6_label 10 = .ok (.iload_n 2, 1) := by decide +kernel
theorem dX6_label_11 : decode cX6_label 11 = .ok (.aload_n 3, 1) := by decide +kernel
theorem dX6_label_12 : decode cX6_label 12 = .ok (.getfield 189, 3) := by decide +kernel
theorem dX6_label_15 : decode cX6_label 15 = .ok (.invokevirtual 99, 3) := by decide +kernel
theorem dX6_label_18 : decode cX6_label 18 = .ok (.if_icmp .lt 13, 3) := by decide +kernel
theorem dX6_label_21 : decode cX6_label 21 = .ok (.new 121, 3) := by decide +kernel
theorem dX6_label_24 : decode cX6_label 24 = .ok (.dup, 1) := by decide +kernel
theorem dX6_label_25 : decode cX6_label 25 = .ok (.ldc 192, 2) := by decide +kernel
theorem dX6_label_27 : decode cX6_label 27 = .ok (.invokespecial 125, 3) := by decide +kernel
theorem dX6_label_30 : decode cX6_label 30 = .ok (.athrow, 1) := by decide +kernel
theorem dX6_label_31 : decode cX6_label 31 = .ok (.aload_n 3, 1) := by decide +kernel
theorem dX6_label_32 : decode cX6_label 32 = .ok (.getfield 189, 3) := by decide +kernel
theorem dX6_label_35 : decode cX6_label 35 = .ok (.iload_n 2, 1) := by decide +kernel
theorem dX6_label_36 : decode cX6_label 36 = .ok (.invokevirtual 126, 3) := by decide +kernel
theorem dX6_label_39 : decode cX6_label 39 = .ok (.ireturn, 1) := by decide +kernel
theorem dX6_silence_0 : decode cX6_silence 0 = .ok (.aload_n 0, 1) := by decide +kernel
theorem dX6_silence_1 : decode cX6_silence 1 = .ok (.iload_n 1, 1) := by decide +kernel
theorem dX6_silence_2 : decode cX6_silence 2 = .ok (.invokevirtual 163, 3) := by decide +kernel
theorem dX6_silence_5 : decode cX6_silence 5 = .ok (.astore_n 3, 1) := by decide +kernel
theorem dX6_silence_6 : decode cX6_silence 6 = .ok (.aload_n 3, 1) := by decide +kernel
theorem dX6_silence_7 : decode cX6_silence 7 = .ok (.getfield 194, 3) := by decide +kernel
theorem dX6_silence_10 : decode cX6_silence 10 = .ok (.invokestatic 198, 3) := by decide +kernel
theorem dX6_silence_13 : decode cX6_silence 13 = .ok (.istore 4, 2) := by decide +kernel
theorem dX6_silence_15 : decode cX6_silence 15 = .ok (.aload_n 3, 1) := by decide +kernel
theorem dX6_silence_16 : decode cX6_silence 16 = .ok (.iload_n 2, 1) := by decide +kernel
theorem dX6_silence_17 : decode cX6_silence 17 = .ok (.putfield 194, 3) := by decide +kernel
theorem dX6_silence_20 : decode cX6_silence 20 = .ok (.iload 4, 2) := by decide +kernel
theorem dX6_silence_22 : decode cX6_silence 22 = .ok (.ireturn, 1) := by decide +kernel
theorem dX6_search_0 : decode cX6_search 0 = .ok (.aload_n 0, 1) := by decide +kernel
theorem dX6_search_1 : decode cX6_search 1 = .ok (.getfield 50, 3) := by decide +kernel
theorem dX6_search_4 : decode cX6_search 4 = .ok (.invokevirtual 202, 3) := by decide +kernel
theorem dX6_search_7 : decode cX6_search 7 = .ok (.aload_n 0, 1) := by decide +kernel
theorem dX6_search_8 : decode cX6_search 8 = .ok (.ldc2_w 205, 3) := by decide +kernel
theorem dX6_search_11 : decode cX6_search 11 = .ok (.iconst 3, 1) := by decide +kernel
theorem dX6_search_12 : decode cX6_search 12 = .ok (.invokevirtual 207, 3) := by decide +kernel
theorem dX6_search_15 : decode cX6_search 15 = .ok (.aload_n 0, 1) := by decide +kernel
theorem dX6_search_16 : decode cX6_search 16 = .ok (.invokevirtual 118, 3) := by decide +kernel
theorem dX6_search_19 : decode cX6_search 19 = .ok (.aload_n 0, 1) := by decide +kernel
theorem dX6_search_20 : decode cX6_search 20 = .ok (.getfield 50, 3) := by decide +kernel
theorem dX6_search_23 : decode cX6_search 23 = .ok (.getfield 210, 3) := by decide +kernel
theorem dX6_search_26 : decode cX6_search 26 = .ok (.ireturn, 1) := by decide +kernel
theorem dX6_step_0 : decode cX6_step 0 = .ok (.aload_n 0, 1) := by decide +kernel
theorem dX6_step_1 : decode cX6_step 1 = .ok (.getfield 50, 3) := by decide +kernel
theorem dX6_step_4 : decode cX6_step 4 = .ok (.getfield 213, 3) := by decide +kernel
theorem dX6_step_7 : decode cX6_step 7 = .ok (.ifCond .ne 13, 3) := by decide +kernel
theorem dX6_step_10 : decode cX6_step 10 = .ok (.new 91, 3) := by decide +kernel
theorem dX6_step_13 : decode cX6_step 13 = .ok (.dup, 1) := by decide +kernel
theorem dX6_step_14 : decode cX6_step 14 = .ok (.ldc 216, 2) := by decide +kernel
theorem dX6_step_16 : decode cX6_step 16 = .ok (.invokespecial 95, 3) := by decide +kernel
theorem dX6_step_19 : decode cX6_step 19 = .ok (.athrow, 1) := by decide +kernel
theorem dX6_step_20 : decode cX6_step 20 = .ok (.iload_n 1, 1) := by decide +kernel
theorem dX6_step_21 : decode cX6_step 21 = .ok (.iconst 1, 1) := by decide +kernel
theorem dX6_step_22 : decode cX6_step 22 = .ok (.if_icmp .lt 10, 3) := by decide +kernel
theorem dX6_step_25 : decode cX6_step 25 = .ok (.iload_n 1, 1) := by decide +kernel
theorem dX6_step_26 : decode cX6_step 26 = .ok (.sipush 1000, 3) := by decide +kernel
theorem dX6_step_29 : decode cX6_step 29 = .ok (.if_icmp .le 13, 3) := by decide +kernel
theorem dX6_step_32 : decode cX6_step 32 = .ok (.new 62, 3) := by decide +kernel
theorem dX6_step_35 : decode cX6_step 35 = .ok (.dup, 1) := by decide +kernel
theorem dX6_step_36 : decode cX6_step 36 = .ok (.ldc 218, 2) := by decide +kernel
theorem dX6_step_38 : decode cX6_step 38 = .ok (.invokespecial 66, 3) := by decide +kernel
theorem dX6_step_41 : decode cX6_step 41 = .ok (.athrow, 1) := by decide +kernel
theorem dX6_step_42 : decode cX6_step 42 = .ok (.iconst 0, 1) := by decide +kernel
theorem dX6_step_43 : decode cX6_step 43 = .ok (.istore_n 2, 1) := by decide +kernel
theorem dX6_step_44 : decode cX6_step 44 = .ok (.iload_n 2, 1) := by decide +kernel
theorem dX6_step_45 : decode cX6_step 45 = .ok (.iload_n 1, 1) := by decide +kernel
theorem dX6_step_46 : decode cX6_step 46 = .ok (.if_icmp .ge 23, 3) := by decide +kernel
theorem dX6_step_49 : decode cX6_step 49 = .ok (.aload_n 0, 1) := by decide +kernel
theorem dX6_step_50 : decode cX6_step 50 = .ok (.getfield 50, 3) := by decide +kernel
theorem dX6_step_53 : decode cX6_step 53 = .ok (.getfield 210, 3) := by decide +kernel
theorem dX6_step_56 : decode cX6_step 56 = .ok (.ifCond .le 13, 3) := by decide +kernel
theorem dX6_step_59 : decode cX6_step 59 = .ok (.aload_n 0, 1) := by decide +kernel
theorem dX6_step_60 : decode cX6_step 60 = .ok (.invokevirtual 220, 3) := by decide +kernel
theorem dX6_step_63 : decode cX6_step 63 = .ok (.iinc 2 1, 3) := by decide +kernel
theorem dX6_step_66 : decode cX6_step 66 = .ok (.goto (-22), 3) := by decide +kernel
theorem dX6_step_69 : decode cX6_step 69 = .ok (.aload_n 0, 1) := by decide +kernel
theorem dX6_step_70 : decode cX6_step 70 = .ok (.getfield 50, 3) := by decide +kernel
theorem dX6_step_73 : decode cX6_step 73 = .ok (.getfield 210, 3) := by decide +kernel
theorem dX6_step_76 : decode cX6_step 76 = .ok (.ireturn, 1) := by decide +kernel
theorem dX6_found_0 : decode cX6_found 0 = .ok (.aload_n 0, 1) := by decide +kernel
theorem dX6_found_1 : decode cX6_found 1 = .ok (.getfield 50, 3) := by decide +kernel
theorem dX6_found_4 : decode cX6_found 4 = .ok (.getfield 223, 3) := by decide +kernel
theorem dX6_found_7 : decode cX6_found 7 = .ok (.ireturn, 1) := by decide +kernel
theorem dX6_id_0 : decode cX6_id 0 = .ok (.iload_n 1, 1) := by decide +kernel
theorem dX6_id_1 : decode cX6_id 1 = .ok (.ifCond .lt 14, 3) := by decide +kernel
theorem dX6_id_4 : decode cX6_id 4 = .ok (.iload_n 1, 1) := by decide +kernel
theorem dX6_id_5 : decode cX6_id 5 = .ok (.aload_n 0, 1) := by decide +kernel
theorem dX6_id_6 : decode cX6_id 6 = .ok (.getfield 50, 3) := by decide +kernel
theorem dX6_id_9 : decode cX6_id 9 = .ok (.getfield 223, 3) := by decide +kernel
theorem dX6_id_12 : decode cX6_id 12 = .ok (.if_icmp .lt 13, 3) := by decide +kernel
theorem dX6_id_15 : decode cX6_id 15 = .ok (.new 121, 3) := by decide +kernel
theorem dX6_id_18 : decode cX6_id 18 = .ok (.dup, 1) := by decide +kernel
theorem dX6_id_19 : decode cX6_id 19 = .ok (.ldc 226, 2) := by decide +kernel
theorem dX6_id_21 : decode cX6_id 21 = .ok (.invokespecial 125, 3) := by decide +kernel
theorem dX6_id_24 : decode cX6_id 24 = .ok (.athrow, 1) := by decide +kernel
theorem dX6_id_25 : decode cX6_id 25 = .ok (.aload_n 0, 1) := by decide +kernel
theorem dX6_id_26 : decode cX6_id 26 = .ok (.getfield 50, 3) := by decide +kernel
theorem dX6_id_29 : decode cX6_id 29 = .ok (.getfield 228, 3) := by decide +kernel
theorem dX6_id_32 : decode cX6_id 32 = .ok (.iload_n 1, 1) := by decide +kernel
theorem dX6_id_33 : decode cX6_id 33 = .ok (.laload, 1) := by decide +kernel
theorem dX6_id_34 : decode cX6_id 34 = .ok (.lreturn, 1) := by decide +kernel
theorem dX6_branch_0 : decode cX6_branch 0 = .ok (.iload_n 1, 1) := by decide +kernel
theorem dX6_branch_1 : decode cX6_branch 1 = .ok (.ifCond .lt 8, 3) := by decide +kernel
theorem dX6_branch_4 : decode cX6_branch 4 = .ok (.iload_n 1, 1) := by decide +kernel
theorem dX6_branch_5 : decode cX6_branch 5 = .ok (.iconst 2, 1) := by decide +kernel
theorem dX6_branch_6 : decode cX6_branch 6 = .ok (.if_icmp .le 13, 3) := by decide +kernel
theorem dX6_branch_9 : decode cX6_branch 9 = .ok (.new 121, 3) := by decide +kernel
theorem dX6_branch_12 : decode cX6_branch 12 = .ok (.dup, 1) := by decide +kernel
theorem dX6_branch_13 : decode cX6_branch 13 = .ok (.ldc 167, 2) := by decide +kernel
theorem dX6_branch_15 : decode cX6_branch 15 = .ok (.invokespecial 125, 3) := by decide +kernel
theorem dX6_branch_18 : decode cX6_branch 18 = .ok (.athrow, 1) := by decide +kernel
theorem dX6_branch_19 : decode cX6_branch 19 = .ok (.iload_n 1, 1) := by decide +kernel
theorem dX6_branch_20 : decode cX6_branch 20 = .ok (.iconst 2, 1) := by decide +kernel
theorem dX6_branch_21 : decode cX6_branch 21 = .ok (.if_icmp .ne 12, 3) := by decide +kernel
theorem dX6_branch_24 : decode cX6_branch 24 = .ok (.aload_n 0, 1) := by decide +kernel
theorem dX6_branch_25 : decode cX6_branch 25 = .ok (.getfield 50, 3) := by decide +kernel
theorem dX6_branch_28 : decode cX6_branch 28 = .ok (.getfield 232, 3) := by decide +kernel
theorem dX6_branch_31 : decode cX6_branch 31 = .ok (.i2l, 1) := by decide +kernel
theorem dX6_branch_32 : decode cX6_branch 32 = .ok (.lreturn, 1) := by decide +kernel
theorem dX6_branch_33 : decode cX6_branch 33 = .ok (.aload_n 0, 1) := by decide +kernel
theorem dX6_branch_34 : decode cX6_branch 34 = .ok (.getfield 50, 3) := by decide +kernel
theorem dX6_branch_37 : decode cX6_branch 37 = .ok (.getfield 210, 3) := by decide +kernel
theorem dX6_branch_40 : decode cX6_branch 40 = .ok (.ifCond .ne 13, 3) := by decide +kernel
theorem dX6_branch_43 : decode cX6_branch 43 = .ok (.new 121, 3) := by decide +kernel
theorem dX6_branch_46 : decode cX6_branch 46 = .ok (.dup, 1) := by decide +kernel
theorem dX6_branch_47 : decode cX6_branch 47 = .ok (.ldc 235, 2) := by decide +kernel
theorem dX6_branch_49 : decode cX6_branch 49 = .ok (.invokespecial 125, 3) := by decide +kernel
theorem dX6_branch_52 : decode cX6_branch 52 = .ok (.athrow, 1) := by decide +kernel
theorem dX6_branch_53 : decode cX6_branch 53 = .ok (.iload_n 1, 1) := by decide +kernel
theorem dX6_branch_54 : decode cX6_branch 54 = .ok (.ifCond .ne 13, 3) := by decide +kernel
theorem dX6_branch_57 : decode cX6_branch 57 = .ok (.aload_n 0, 1) := by decide +kernel
theorem dX6_branch_58 : decode cX6_branch 58 = .ok (.getfield 50, 3) := by decide +kernel
theorem dX6_branch_61 : decode cX6_branch 61 = .ok (.invokevirtual 237, 3) := by decide +kernel
theorem dX6_branch_64 : decode cX6_branch 64 = .ok (.goto 10, 3) := by decide +kernel
theorem dX6_branch_67 : decode cX6_branch 67 = .ok (.aload_n 0, 1) := by decide +kernel
theorem dX6_branch_68 : decode cX6_branch 68 = .ok (.getfield 50, 3) := by decide +kernel
theorem dX6_branch_71 : decode cX6_branch 71 = .ok (.invokevirtual 241, 3) := by decide +kernel
theorem dX6_branch_74 : decode cX6_branch 74 = .ok (.lreturn, 1) := by decide +kernel
theorem dX6_joinedId_0 : decode cX6_joinedId 0 = .ok (.iload_n 0, 1) := by decide +kernel
theorem dX6_joinedId_1 : decode cX6_joinedId 1 = .ok (.i2l, 1) := by decide +kernel
theorem dX6_joinedId_2 : decode cX6_joinedId 2 = .ok (.bipush 32, 2) := by decide +kernel
theorem dX6_joinedId_4 : decode cX6_joinedId 4 = .ok (.lshl, 1) := by decide +kernel
theorem dX6_joinedId_5 : decode cX6_joinedId 5 = .ok (.lload_n 1, 1) := by decide +kernel
theorem dX6_joinedId_6 : decode cX6_joinedId 6 = .ok (.lor, 1) := by decide +kernel
theorem dX6_joinedId_7 : decode cX6_joinedId 7 = .ok (.lreturn, 1) := by decide +kernel
theorem dX6_makerOf_0 : decode cX6_makerOf 0 = .ok (.lload_n 0, 1) := by decide +kernel
theorem dX6_makerOf_1 : decode cX6_makerOf 1 = .ok (.bipush 32, 2) := by decide +kernel
theorem dX6_makerOf_3 : decode cX6_makerOf 3 = .ok (.lushr, 1) := by decide +kernel
theorem dX6_makerOf_4 : decode cX6_makerOf 4 = .ok (.l2i, 1) := by decide +kernel
theorem dX6_makerOf_5 : decode cX6_makerOf 5 = .ok (.ireturn, 1) := by decide +kernel
theorem dX6_restOf_0 : decode cX6_restOf 0 = .ok (.lload_n 0, 1) := by decide +kernel
theorem dX6_restOf_1 : decode cX6_restOf 1 = .ok (.ldc2_w 60, 3) := by decide +kernel
theorem dX6_restOf_4 : decode cX6_restOf 4 = .ok (.land, 1) := by decide +kernel
theorem dX6_restOf_5 : decode cX6_restOf 5 = .ok (.lreturn, 1) := by decide +kernel
theorem dX6_flag_0 : decode cX6_flag 0 = .ok (.iload_n 0, 1) := by decide +kernel
theorem dX6_flag_1 : decode cX6_flag 1 = .ok (.ifCond .eq 7, 3) := by decide +kernel
theorem dX6_flag_4 : decode cX6_flag 4 = .ok (.iconst 1, 1) := by decide +kernel
theorem dX6_flag_5 : decode cX6_flag 5 = .ok (.goto 4, 3) := by decide +kernel
theorem dX6_flag_8 : decode cX6_flag 8 = .ok (.iconst 0, 1) := by decide +kernel
theorem dX6_flag_9 : decode cX6_flag 9 = .ok (.ireturn, 1) := by decide +kernel
theorem dX6_fits_0 : decode cX6_fits 0 = .ok (.iload_n 0, 1) := by decide +kernel
theorem dX6_fits_1 : decode cX6_fits 1 = .ok (.iconst 1, 1) := by decide +kernel
theorem dX6_fits_2 : decode cX6_fits 2 = .ok (.if_icmp .lt 25, 3) := by decide +kernel
theorem dX6_fits_5 : decode cX6_fits 5 = .ok (.iload_n 0, 1) := by decide +kernel
theorem dX6_fits_6 : decode cX6_fits 6 = .ok (.sipush 512, 3) := by decide +kernel
theorem dX6_fits_9 : decode cX6_fits 9 = .ok (.if_icmp .gt 18, 3) := by decide +kernel
theorem dX6_fits_12 : decode cX6_fits 12 = .ok (.iload_n 0, 1) := by decide +kernel
theorem dX6_fits_13 : decode cX6_fits 13 = .ok (.iload_n 1, 1) := by decide +kernel
theorem dX6_fits_14 : decode cX6_fits 14 = .ok (.iadd, 1) := by decide +kernel
theorem dX6_fits_15 : decode cX6_fits 15 = .ok (.iconst 1, 1) := by decide +kernel
theorem dX6_fits_16 : decode cX6_fits 16 = .ok (.isub, 1) := by decide +kernel
theorem dX6_fits_17 : decode cX6_fits 17 = .ok (.sipush 512, 3) := by decide +kernel
theorem dX6_fits_20 : decode cX6_fits 20 = .ok (.if_icmp .gt 7, 3) := by decide +kernel
theorem dX6_fits_23 : decode cX6_fits 23 = .ok (.iconst 1, 1) := by decide +kernel
theorem dX6_fits_24 : decode cX6_fits 24 = .ok (.goto 4, 3) := by decide +kernel
theorem dX6_fits_27 : decode cX6_fits 27 = .ok (.iconst 0, 1) := by decide +kernel
theorem dX6_fits_28 : decode cX6_fits 28 = .ok (.ireturn, 1) := by decide +kernel
theorem dX6_isThere_0 : decode cX6_isThere 0 = .ok (.iconst 0, 1) := by decide +kernel
theorem dX6_isThere_1 : decode cX6_isThere 1 = .ok (.istore_n 3, 1) := by decide +kernel
theorem dX6_isThere_2 : decode cX6_isThere 2 = .ok (.iload_n 3, 1) := by decide +kernel
theorem dX6_isThere_3 : decode cX6_isThere 3 = .ok (.aload_n 0, 1) := by decide +kernel
theorem dX6_isThere_4 : decode cX6_isThere 4 = .ok (.getfield 87, 3) := by decide +kernel
theorem dX6_isThere_7 : decode cX6_isThere 7 = .ok (.if_icmp .ge 25, 3) := by decide +kernel
theorem dX6_isThere_10 : decode cX6_isThere 10 = .ok (.aload_n 0, 1) := by decide +kernel
theorem dX6_isThere_11 : decode cX6_isThere 11 = .ok (.getfield 56, 3) := by decide +kernel
theorem dX6_isThere_14 : decode cX6_isThere 14 = .ok (.iload_n 3, 1) := by decide +kernel
theorem dX6_isThere_15 : decode cX6_isThere 15 = .ok (.aaload, 1) := by decide +kernel
theorem dX6_isThere_16 : decode cX6_isThere 16 = .ok (.getfield 173, 3) := by decide +kernel
theorem dX6_isThere_19 : decode cX6_isThere 19 = .ok (.lload_n 1, 1) := by decide +kernel
theorem dX6_isThere_20 : decode cX6_isThere 20 = .ok (.lcmp, 1) := by decide +kernel
theorem dX6_isThere_21 : decode cX6_isThere 21 = .ok (.ifCond .ne 5, 3) := by decide +kernel
theorem dX6_isThere_24 : decode cX6_isThere 24 = .ok (.iconst 1, 1) := by decide +kernel
theorem dX6_isThere_25 : decode cX6_isThere 25 = .ok (.ireturn, 1) := by decide +kernel
theorem dX6_isThere_26 : decode cX6_isThere 26 = .ok (.iinc 3 1, 3) := by decide +kernel
theorem dX6_isThere_29 : decode cX6_isThere 29 = .ok (.goto (-27), 3) := by decide +kernel
theorem dX6_isThere_32 : decode cX6_isThere 32 = .ok (.iconst 0, 1) := by decide +kernel
theorem dX6_isThere_33 : decode cX6_isThere 33 = .ok (.ireturn, 1) := by decide +kernel
theorem dX6_lampAt_0 : decode cX6_lampAt 0 = .ok (.iload_n 1, 1) := by decide +kernel
theorem dX6_lampAt_1 : decode cX6_lampAt 1 = .ok (.ifCond .lt 11, 3) := by decide +kernel
theorem dX6_lampAt_4 : decode cX6_lampAt 4 = .ok (.iload_n 1, 1) := by decide +kernel
theorem dX6_lampAt_5 : decode cX6_lampAt 5 = .ok (.aload_n 0, 1) := by decide +kernel
theorem dX6_lampAt_6 : decode cX6_lampAt 6 = .ok (.getfield 87, 3) := by decide +kernel
theorem dX6_lampAt_9 : decode cX6_lampAt 9 = .ok (.if_icmp .lt 13, 3) := by decide +kernel
theorem dX6_lampAt_12 : decode cX6_lampAt 12 = .ok (.new 121, 3) := by decide +kernel
theorem dX6_lampAt_15 : decode cX6_lampAt 15 = .ok (.dup, 1) := by decide +kernel
theorem dX6_lampAt_16 : decode cX6_lampAt 16 = .ok (.ldc 244, 2) := by decide +kernel
theorem dX6_lampAt_18 : decode cX6_lampAt 18 = .ok (.invokespecial 125, 3) := by decide +kernel
theorem dX6_lampAt_21 : decode cX6_lampAt 21 = .ok (.athrow, 1) := by decide +kernel
theorem dX6_lampAt_22 : decode cX6_lampAt 22 = .ok (.aload_n 0, 1) := by decide +kernel
theorem dX6_lampAt_23 : decode cX6_lampAt 23 = .ok (.getfield 56, 3) := by decide +kernel
theorem dX6_lampAt_26 : decode cX6_lampAt 26 = .ok (.iload_n 1, 1) := by decide +kernel
theorem dX6_lampAt_27 : decode cX6_lampAt 27 = .ok (.aaload, 1) := by decide +kernel
theorem dX6_lampAt_28 : decode cX6_lampAt 28 = .ok (.areturn, 1) := by decide +kernel
theorem dX6_runFrame_0 : decode cX6_runFrame 0 = .ok (.aload_n 0, 1) := by decide +kernel
theorem dX6_runFrame_1 : decode cX6_runFrame 1 = .ok (.dup, 1) := by decide +kernel
theorem dX6_runFrame_2 : decode cX6_runFrame 2 = .ok (.getfield 160, 3) := by decide +kernel
theorem dX6_runFrame_5 : decode cX6_runFrame 5 = .ok (.iconst 1, 1) := by decide +kernel
theorem dX6_runFrame_6 : decode cX6_runFrame 6 = .ok (.iadd, 1) := by decide +kernel
theorem dX6_runFrame_7 : decode cX6_runFrame 7 = .ok (.putfield 160, 3) := by decide +kernel
theorem dX6_runFrame_10 : decode cX6_runFrame 10 = .ok (.aload_n 0, 1) := by decide +kernel
theorem dX6_runFrame_11 : decode cX6_runFrame 11 = .ok (.getfield 26, 3) := by decide +kernel
theorem dX6_runFrame_14 : decode cX6_runFrame 14 = .ok (.iconst 0, 1) := by decide +kernel
theorem dX6_runFrame_15 : decode cX6_runFrame 15 = .ok (.invokevirtual 111, 3) := by decide +kernel
theorem dX6_runFrame_18 : decode cX6_runFrame 18 = .ok (.aload_n 0, 1) := by decide +kernel
theorem dX6_runFrame_19 : decode cX6_runFrame 19 = .ok (.getfield 18, 3) := by decide +kernel
theorem dX6_runFrame_22 : decode cX6_runFrame 22 = .ok (.invokevirtual 99, 3) := by decide +kernel
theorem dX6_runFrame_25 : decode cX6_runFrame 25 = .ok (.ifCond .le 18, 3) := by decide +kernel
theorem dX6_runFrame_28 : decode cX6_runFrame 28 = .ok (.aload_n 0, 1) := by decide +kernel
theorem dX6_runFrame_29 : decode cX6_runFrame 29 = .ok (.getfield 18, 3) := by decide +kernel
theorem dX6_runFrame_32 : decode cX6_runFrame 32 = .ok (.iconst 0, 1) := by decide +kernel
theorem dX6_runFrame_33 : decode cX6_runFrame 33 = .ok (.invokevirtual 126, 3) := by decide +kernel
theorem dX6_runFrame_36 : decode cX6_runFrame 36 = .ok (.ifCond .ne 7, 3) := by decide +kernel
theorem dX6_runFrame_39 : decode cX6_runFrame 39 = .ok (.iconst 1, 1) := by decide +kernel
theorem dX6_runFrame_40 : decode cX6_runFrame 40 = .ok (.goto 4, 3) := by decide +kernel
theorem dX6_runFrame_43 : decode cX6_runFrame 43 = .ok (.iconst 0, 1) := by decide +kernel
theorem dX6_runFrame_44 : decode cX6_runFrame 44 = .ok (.istore_n 1, 1) := by decide +kernel
theorem dX6_runFrame_45 : decode cX6_runFrame 45 = .ok (.aload_n 0, 1) := by decide +kernel
theorem dX6_runFrame_46 : decode cX6_runFrame 46 = .ok (.getfield 34, 3) := by decide +kernel
theorem dX6_runFrame_49 : decode cX6_runFrame 49 = .ok (.aload_n 0, 1) := by decide +kernel
theorem dX6_runFrame_50 : decode cX6_runFrame 50 = .ok (.getfield 18, 3) := by decide +kernel
theorem dX6_runFrame_53 : decode cX6_runFrame 53 = .ok (.invokevirtual 246, 3) := by decide +kernel
theorem dX6_runFrame_56 : decode cX6_runFrame 56 = .ok (.istore_n 2, 1) := by decide +kernel
theorem dX6_runFrame_57 : decode cX6_runFrame 57 = .ok (.iconst 0, 1) := by decide +kernel
theorem dX6_runFrame_58 : decode cX6_runFrame 58 = .ok (.istore_n 3, 1) := by decide +kernel
theorem dX6_runFrame_59 : decode cX6_runFrame 59 = .ok (.iload_n 3, 1) := by decide +kernel
theorem dX6_runFrame_60 : decode cX6_runFrame 60 = .ok (.aload_n 0, 1) := by decide +kernel
theorem dX6_runFrame_61 : decode cX6_runFrame 61 = .ok (.getfield 87, 3) := by decide +kernel
theorem dX6_runFrame_64 : decode cX6_runFrame 64 = .ok (.if_icmp .ge 97, 3) := by decide +kernel
theorem dX6_runFrame_67 : decode cX6_runFrame 67 = .ok (.aload_n 0, 1) := by decide +kernel
theorem dX6_runFrame_68 : decode cX6_runFrame 68 = .ok (.getfield 56, 3) := by decide +kernel
theorem dX6_runFrame_71 : decode cX6_runFrame 71 = .ok (.iload_n 3, 1) := by decide +kernel
theorem dX6_runFrame_72 : decode cX6_runFrame 72 = .ok (.aaload, 1) := by decide +kernel
theorem dX6_runFrame_73 : decode cX6_runFrame 73 = .ok (.astore 4, 2) := by decide +kernel
theorem dX6_runFrame_75 : decode cX6_runFrame 75 = .ok (.aload 4, 2) := by decide +kernel
theorem dX6_runFrame_77 : decode cX6_runFrame 77 = .ok (.aload_n 0, 1) := by decide +kernel
theorem dX6_runFrame_78 : decode cX6_runFrame 78 = .ok (.getfield 160, 3) := by decide +kernel
theorem dX6_runFrame_81 : decode cX6_runFrame 81 = .ok (.invokevirtual 250, 3) := by decide +kernel
theorem dX6_runFrame_84 : decode cX6_runFrame 84 = .ok (.iload_n 1, 1) := by decide +kernel
theorem dX6_runFrame_85 : decode cX6_runFrame 85 = .ok (.ifCond .eq 16, 3) := by decide +kernel
theorem dX6_runFrame_88 : decode cX6_runFrame 88 = .ok (.aload 4, 2) := by decide +kernel
theorem dX6_runFrame_90 : decode cX6_runFrame 90 = .ok (.aload_n 0, 1) := by decide +kernel
theorem dX6_runFrame_91 : decode cX6_runFrame 91 = .ok (.getfield 18, 3) := by decide +kernel
theorem dX6_runFrame_94 : decode cX6_runFrame 94 = .ok (.aload_n 0, 1) := by decide +kernel
theorem dX6_runFrame_95 : decode cX6_runFrame 95 = .ok (.getfield 160, 3) := by decide +kernel
theorem dX6_runFrame_98 : decode cX6_runFrame 98 = .ok (.invokevirtual 253, 3) := by decide +kernel
theorem dX6_runFrame_101 : decode cX6_runFrame 101 = .ok (.iload_n 2, 1) := by decide +kernel
theorem dX6_runFrame_102 : decode cX6_runFrame 102 = .ok (.ifCond .eq 53, 3) := by decide +kernel
theorem dX6_runFrame_105 : decode cX6_runFrame 105 = .ok (.aload 4, 2) := by decide +kernel
theorem dX6_runFrame_107 : decode cX6_runFrame 107 = .ok (.aload_n 0, 1) := by decide +kernel
theorem dX6_runFrame_108 : decode cX6_runFrame 108 = .ok (.getfield 34, 3) := by decide +kernel
theorem dX6_runFrame_111 : decode cX6_runFrame 111 = .ok (.getfield 257, 3) := by decide +kernel
theorem dX6_runFrame_114 : decode cX6_runFrame 114 = .ok (.invokevirtual 260, 3) := by decide +kernel
theorem dX6_runFrame_117 : decode cX6_runFrame 117 = .ok (.ifCond .eq 38, 3) := by decide +kernel
theorem dX6_runFrame_120 : decode cX6_runFrame 120 = .ok (.aload 4, 2) := by decide +kernel
theorem dX6_runFrame_122 : decode cX6_runFrame 122 = .ok (.aload_n 0, 1) := by decide +kernel
theorem dX6_runFrame_123 : decode cX6_runFrame 123 = .ok (.getfield 34, 3) := by decide +kernel
theorem dX6_runFrame_126 : decode cX6_runFrame 126 = .ok (.aload_n 0, 1) := by decide +kernel
theorem dX6_runFrame_127 : decode cX6_runFrame 127 = .ok (.getfield 37, 3) := by decide +kernel
theorem dX6_runFrame_130 : decode cX6_runFrame 130 = .ok (.aload_n 0, 1) := by decide +kernel
theorem dX6_runFrame_131 : decode cX6_runFrame 131 = .ok (.getfield 23, 3) := by decide +kernel
theorem dX6_runFrame_134 : decode cX6_runFrame 134 = .ok (.aload_n 0, 1) := by decide +kernel
theorem dX6_runFrame_135 : decode cX6_runFrame 135 = .ok (.getfield 160, 3) := by decide +kernel
theorem dX6_runFrame_138 : decode cX6_runFrame 138 = .ok (.invokevirtual 263, 3) := by decide +kernel
theorem dX6_runFrame_141 : decode cX6_runFrame 141 = .ok (.ifCond .eq 14, 3) := by decide +kernel
theorem dX6_runFrame_144 : decode cX6_runFrame 144 = .ok (.aload_n 0, 1) := by decide +kernel
theorem dX6_runFrame_145 : decode cX6_runFrame 145 = .ok (.getfield 26, 3) := by decide +kernel
theorem dX6_runFrame_148 : decode cX6_runFrame 148 = .ok (.aload_n 0, 1) := by decide +kernel
theorem dX6_runFrame_149 : decode cX6_runFrame 149 = .ok (.getfield 23, 3) := by decide +kernel
theorem dX6_runFrame_152 : decode cX6_runFrame 152 = .ok (.invokevirtual 267, 3) := by decide +kernel
theorem dX6_runFrame_155 : decode cX6_runFrame 155 = .ok (.iinc 3 1, 3) := by decide +kernel
theorem dX6_runFrame_158 : decode cX6_runFrame 158 = .ok (.goto (-99), 3) := by decide +kernel
theorem dX6_runFrame_161 : decode cX6_runFrame 161 = .ok (.aload_n 0, 1) := by decide +kernel
theorem dX6_runFrame_162 : decode cX6_runFrame 162 = .ok (.getfield 26, 3) := by decide +kernel
theorem dX6_runFrame_165 : decode cX6_runFrame 165 = .ok (.invokevirtual 99, 3) := by decide +kernel
theorem dX6_runFrame_168 : decode cX6_runFrame 168 = .ok (.ifCond .le 14, 3) := by decide +kernel
theorem dX6_runFrame_171 : decode cX6_runFrame 171 = .ok (.aload_n 0, 1) := by decide +kernel
theorem dX6_runFrame_172 : decode cX6_runFrame 172 = .ok (.getfield 43, 3) := by decide +kernel
theorem dX6_runFrame_175 : decode cX6_runFrame 175 = .ok (.aload_n 0, 1) := by decide +kernel
theorem dX6_runFrame_176 : decode cX6_runFrame 176 = .ok (.getfield 26, 3) := by decide +kernel
theorem dX6_runFrame_179 : decode cX6_runFrame 179 = .ok (.invokevirtual 270, 3) := by decide +kernel
theorem dX6_runFrame_182 : decode cX6_runFrame 182 = .ok (.return_, 1) := by decide +kernel
theorem dX6_beginQuestion_0 : decode cX6_beginQuestion 0 = .ok (.aload_n 0, 1) := by decide +kernel
theorem dX6_beginQuestion_1 : decode cX6_beginQuestion 1 = .ok (.aload_n 0, 1) := by decide +kernel
theorem dX6_beginQuestion_2 : decode cX6_beginQuestion 2 = .ok (.getfield 273, 3) := by decide +kernel
theorem dX6_beginQuestion_5 : decode cX6_beginQuestion 5 = .ok (.iconst 1, 1) := by decide +kernel
theorem dX6_beginQuestion_6 : decode cX6_beginQuestion 6 = .ok (.iadd, 1) := by decide +kernel
theorem dX6_beginQuestion_7 : decode cX6_beginQuestion 7 = .ok (.sipush 255, 3) := by decide +kernel
theorem dX6_beginQuestion_10 : decode cX6_beginQuestion 10 = .ok (.iand, 1) := by decide +kernel
theorem dX6_beginQuestion_11 : decode cX6_beginQuestion 11 = .ok (.putfield 273, 3) := by decide +kernel
theorem dX6_beginQuestion_14 : decode cX6_beginQuestion 14 = .ok (.aload_n 0, 1) := by decide +kernel
theorem dX6_beginQuestion_15 : decode cX6_beginQuestion 15 = .ok (.getfield 30, 3) := by decide +kernel
theorem dX6_beginQuestion_18 : decode cX6_beginQuestion 18 = .ok (.lload_n 1, 1) := by decide +kernel
theorem dX6_beginQuestion_19 : decode cX6_beginQuestion 19 = .ok (.putfield 257, 3) := by decide +kernel
theorem dX6_beginQuestion_22 : decode cX6_beginQuestion 22 = .ok (.aload_n 0, 1) := by decide +kernel
theorem dX6_beginQuestion_23 : decode cX6_beginQuestion 23 = .ok (.getfield 30, 3) := by decide +kernel
theorem dX6_beginQuestion_26 : decode cX6_beginQuestion 26 = .ok (.ldc2_w 276, 3) := by decide +kernel
theorem dX6_beginQuestion_29 : decode cX6_beginQuestion 29 = .ok (.putfield 278, 3) := by decide +kernel
theorem dX6_beginQuestion_32 : decode cX6_beginQuestion 32 = .ok (.aload_n 0, 1) := by decide +kernel
theorem dX6_beginQuestion_33 : decode cX6_beginQuestion 33 = .ok (.getfield 30, 3) := by decide +kernel
theorem dX6_beginQuestion_36 : decode cX6_beginQuestion 36 = .ok (.aload_n 0, 1) := by decide +kernel
theorem dX6_beginQuestion_37 : decode cX6_beginQuestion 37 = .ok (.getfield 273, 3) := by decide +kernel
theorem dX6_beginQuestion_40 : decode cX6_beginQuestion 40 = .ok (.putfield 281, 3) := by decide +kernel
theorem dX6_beginQuestion_43 : decode cX6_beginQuestion 43 = .ok (.aload_n 0, 1) := by decide +kernel
theorem dX6_beginQuestion_44 : decode cX6_beginQuestion 44 = .ok (.getfield 30, 3) := by decide +kernel
theorem dX6_beginQuestion_47 : decode cX6_beginQuestion 47 = .ok (.iconst 1, 1) := by decide +kernel
theorem dX6_beginQuestion_48 : decode cX6_beginQuestion 48 = .ok (.putfield 151, 3) := by decide +kernel
theorem dX6_beginQuestion_51 : decode cX6_beginQuestion 51 = .ok (.aload_n 0, 1) := by decide +kernel
theorem dX6_beginQuestion_52 : decode cX6_beginQuestion 52 = .ok (.getfield 30, 3) := by decide +kernel
theorem dX6_beginQuestion_55 : decode cX6_beginQuestion 55 = .ok (.iconst 0, 1) := by decide +kernel
theorem dX6_beginQuestion_56 : decode cX6_beginQuestion 56 = .ok (.putfield 284, 3) := by decide +kernel
theorem dX6_beginQuestion_59 : decode cX6_beginQuestion 59 = .ok (.aload_n 0, 1) := by decide +kernel
theorem dX6_beginQuestion_60 : decode cX6_beginQuestion 60 = .ok (.getfield 30, 3) := by decide +kernel
theorem dX6_beginQuestion_63 : decode cX6_beginQuestion 63 = .ok (.iconst 0, 1) := by decide +kernel
theorem dX6_beginQuestion_64 : decode cX6_beginQuestion 64 = .ok (.putfield 139, 3) := by decide +kernel
theorem dX6_beginQuestion_67 : decode cX6_beginQuestion 67 = .ok (.aload_n 0, 1) := by decide +kernel
theorem dX6_beginQuestion_68 : decode cX6_beginQuestion 68 = .ok (.getfield 30, 3) := by decide +kernel
theorem dX6_beginQuestion_71 : decode cX6_beginQuestion 71 = .ok (.iload_n 3, 1) := by decide +kernel
theorem dX6_beginQuestion_72 : decode cX6_beginQuestion 72 = .ok (.putfield 287, 3) := by decide +kernel
theorem dX6_beginQuestion_75 : decode cX6_beginQuestion 75 = .ok (.aload_n 0, 1) := by decide +kernel
theorem dX6_beginQuestion_76 : decode cX6_beginQuestion 76 = .ok (.getfield 30, 3) := by decide +kernel
theorem dX6_beginQuestion_79 : decode cX6_beginQuestion 79 = .ok (.iload 4, 2) := by decide +kernel
theorem dX6_beginQuestion_81 : decode cX6_beginQuestion 81 = .ok (.putfield 290, 3) := by decide +kernel
theorem dX6_beginQuestion_84 : decode cX6_beginQuestion 84 = .ok (.aload_n 0, 1) := by decide +kernel
theorem dX6_beginQuestion_85 : decode cX6_beginQuestion 85 = .ok (.getfield 30, 3) := by decide +kernel
theorem dX6_beginQuestion_88 : decode cX6_beginQuestion 88 = .ok (.getfield 142, 3) := by decide +kernel
theorem dX6_beginQuestion_91 : decode cX6_beginQuestion 91 = .ok (.iconst 0, 1) := by decide +kernel
theorem dX6_beginQuestion_92 : decode cX6_beginQuestion 92 = .ok (.invokevirtual 111, 3) := by decide +kernel
theorem dX6_beginQuestion_95 : decode cX6_beginQuestion 95 = .ok (.return_, 1) := by decide +kernel
theorem dX6_writeSearch_0 : decode cX6_writeSearch 0 = .ok (.aload_n 0, 1) := by decide +kernel
theorem dX6_writeSearch_1 : decode cX6_writeSearch 1 = .ok (.lload_n 1, 1) := by decide +kernel
theorem dX6_writeSearch_2 : decode cX6_writeSearch 2 = .ok (.bipush 16, 2) := by decide +kernel
theorem dX6_writeSearch_4 : decode cX6_writeSearch 4 = .ok (.iload_n 3, 1) := by decide +kernel
theorem dX6_writeSearch_5 : decode cX6_writeSearch 5 = .ok (.invokevirtual 135, 3) := by decide +kernel
theorem dX6_writeSearch_8 : decode cX6_writeSearch 8 = .ok (.aload_n 0, 1) := by decide +kernel
theorem dX6_writeSearch_9 : decode cX6_writeSearch 9 = .ok (.getfield 30, 3) := by decide +kernel
theorem dX6_writeSearch_12 : decode cX6_writeSearch 12 = .ok (.aload_n 0, 1) := by decide +kernel
theorem dX6_writeSearch_13 : decode cX6_writeSearch 13 = .ok (.getfield 18, 3) := by decide +kernel
theorem dX6_writeSearch_16 : decode cX6_writeSearch 16 = .ok (.invokevirtual 145, 3) := by decide +kernel
theorem dX6_writeSearch_19 : decode cX6_writeSearch 19 = .ok (.return_, 1) := by decide +kernel
theorem dX6_writeBranchSearch_0 : decode cX6_writeBranchSearch 0 = .ok (.aload_n 0, 1) := by decide +kernel
theorem dX6_writeBranchSearch_1 : decode cX6_writeBranchSearch 1 = .ok (.ldc2_w 205, 3) := by decide +kernel
theorem dX6_writeBranchSearch_4 : decode cX6_writeBranchSearch 4 = .ok (.bipush 16, 2) := by decide +kernel
theorem dX6_writeBranchSearch_6 : decode cX6_writeBranchSearch 6 = .ok (.iconst 1, 1) := by decide +kernel
theorem dX6_writeBranchSearch_7 : decode cX6_writeBranchSearch 7 = .ok (.invokevirtual 135, 3) := by decide +kernel
theorem dX6_writeBranchSearch_10 : decode cX6_writeBranchSearch 10 = .ok (.aload_n 0, 1) := by decide +kernel
theorem dX6_writeBranchSearch_11 : decode cX6_writeBranchSearch 11 = .ok (.getfield 30, 3) := by decide +kernel
theorem dX6_writeBranchSearch_14 : decode cX6_writeBranchSearch 14 = .ok (.getfield 142, 3) := by decide +kernel
theorem dX6_writeBranchSearch_17 : decode cX6_writeBranchSearch 17 = .ok (.lload_n 1, 1) := by decide +kernel
theorem dX6_writeBranchSearch_18 : decode cX6_writeBranchSearch 18 = .ok (.bipush 6, 2) := by decide +kernel
theorem dX6_writeBranchSearch_20 : decode cX6_writeBranchSearch 20 = .ok (.invokevirtual 105, 3) := by decide +kernel
theorem dX6_writeBranchSearch_23 : decode cX6_writeBranchSearch 23 = .ok (.aload_n 0, 1) := by decide +kernel
theorem dX6_writeBranchSearch_24 : decode cX6_writeBranchSearch 24 = .ok (.getfield 30, 3) := by decide +kernel
theorem dX6_writeBranchSearch_27 : decode cX6_writeBranchSearch 27 = .ok (.getfield 142, 3) := by decide +kernel
theorem dX6_writeBranchSearch_30 : decode cX6_writeBranchSearch 30 = .ok (.lload_n 3, 1) := by decide +kernel
theorem dX6_writeBranchSearch_31 : decode cX6_writeBranchSearch 31 = .ok (.bipush 6, 2) := by decide +kernel
theorem dX6_writeBranchSearch_33 : decode cX6_writeBranchSearch 33 = .ok (.invokevirtual 105, 3) := by decide +kernel
theorem dX6_writeBranchSearch_36 : decode cX6_writeBranchSearch 36 = .ok (.aload_n 0, 1) := by decide +kernel
theorem dX6_writeBranchSearch_37 : decode cX6_writeBranchSearch 37 = .ok (.getfield 30, 3) := by decide +kernel
theorem dX6_writeBranchSearch_40 : decode cX6_writeBranchSearch 40 = .ok (.aload_n 0, 1) := by decide +kernel
theorem dX6_writeBranchSearch_41 : decode cX6_writeBranchSearch 41 = .ok (.getfield 18, 3) := by decide +kernel
theorem dX6_writeBranchSearch_44 : decode cX6_writeBranchSearch 44 = .ok (.invokevirtual 145, 3) := by decide +kernel
theorem dX6_writeBranchSearch_47 : decode cX6_writeBranchSearch 47 = .ok (.return_, 1) := by decide +kernel
theorem dX6_isReplyFrom_0 : decode cX6_isReplyFrom 0 = .ok (.aload_n 0, 1) := by decide +kernel
theorem dX6_isReplyFrom_1 : decode cX6_isReplyFrom 1 = .ok (.getfield 34, 3) := by decide +kernel
theorem dX6_isReplyFrom_4 : decode cX6_isReplyFrom 4 = .ok (.aload_n 0, 1) := by decide +kernel
theorem dX6_isReplyFrom_5 : decode cX6_isReplyFrom 5 = .ok (.getfield 26, 3) := by decide +kernel
theorem dX6_isReplyFrom_8 : decode cX6_isReplyFrom 8 = .ok (.invokevirtual 246, 3) := by decide +kernel
theorem dX6_isReplyFrom_11 : decode cX6_isReplyFrom 11 = .ok (.ifCond .eq 47, 3) := by decide +kernel
theorem dX6_isReplyFrom_14 : decode cX6_isReplyFrom 14 = .ok (.aload_n 0, 1) := by decide +kernel
theorem dX6_isReplyFrom_15 : decode cX6_isReplyFrom 15 = .ok (.getfield 34, 3) := by decide +kernel
theorem dX6_isReplyFrom_18 : decode cX6_isReplyFrom 18 = .ok (.getfield 278, 3) := by decide +kernel
theorem dX6_isReplyFrom_21 : decode cX6_isReplyFrom 21 = .ok (.lload_n 1, 1) := by decide +kernel
theorem dX6_isReplyFrom_22 : decode cX6_isReplyFrom 22 = .ok (.lcmp, 1) := by decide +kernel
theorem dX6_isReplyFrom_23 : decode cX6_isReplyFrom 23 = .ok (.ifCond .ne 35, 3) := by decide +kernel
theorem dX6_isReplyFrom_26 : decode cX6_isReplyFrom 26 = .ok (.aload_n 0, 1) := by decide +kernel
theorem dX6_isReplyFrom_27 : decode cX6_isReplyFrom 27 = .ok (.getfield 34, 3) := by decide +kernel
theorem dX6_isReplyFrom_30 : decode cX6_isReplyFrom 30 = .ok (.getfield 257, 3) := by decide +kernel
theorem dX6_isReplyFrom_33 : decode cX6_isReplyFrom 33 = .ok (.ldc2_w 276, 3) := by decide +kernel
theorem dX6_isReplyFrom_36 : decode cX6_isReplyFrom 36 = .ok (.lcmp, 1) := by decide +kernel
theorem dX6_isReplyFrom_37 : decode cX6_isReplyFrom 37 = .ok (.ifCond .ne 21, 3) := by decide +kernel
theorem dX6_isReplyFrom_40 : decode cX6_isReplyFrom 40 = .ok (.aload_n 0, 1) := by decide +kernel
theorem dX6_isReplyFrom_41 : decode cX6_isReplyFrom 41 = .ok (.getfield 34, 3) := by decide +kernel
theorem dX6_isReplyFrom_44 : decode cX6_isReplyFrom 44 = .ok (.getfield 281, 3) := by decide +kernel
theorem dX6_isReplyFrom_47 : decode cX6_isReplyFrom 47 = .ok (.aload_n 0, 1) := by decide +kernel
theorem dX6_isReplyFrom_48 : decode cX6_isReplyFrom 48 = .ok (.getfield 273, 3) := by decide +kernel
theorem dX6_isReplyFrom_51 : decode cX6_isReplyFrom 51 = .ok (.if_icmp .ne 7, 3) := by decide +kernel
theorem dX6_isReplyFrom_54 : decode cX6_isReplyFrom 54 = .ok (.iconst 1, 1) := by decide +kernel
theorem dX6_isReplyFrom_55 : decode cX6_isReplyFrom 55 = .ok (.goto 4, 3) := by decide +kernel
theorem dX6_isReplyFrom_58 : decode cX6_isReplyFrom 58 = .ok (.iconst 0, 1) := by decide +kernel
theorem dX6_isReplyFrom_59 : decode cX6_isReplyFrom 59 = .ok (.ireturn, 1) := by decide +kernel
theorem dX6_takeStep_0 : decode cX6_takeStep 0 = .ok (.aload_n 0, 1) := by decide +kernel
theorem dX6_takeStep_1 : decode cX6_takeStep 1 = .ok (.getfield 50, 3) := by decide +kernel
theorem dX6_takeStep_4 : decode cX6_takeStep 4 = .ok (.invokevirtual 237, 3) := by decide +kernel
theorem dX6_takeStep_7 : decode cX6_takeStep 7 = .ok (.lstore_n 1, 1) := by decide +kernel
theorem dX6_takeStep_8 : decode cX6_takeStep 8 = .ok (.aload_n 0, 1) := by decide +kernel
theorem dX6_takeStep_9 : decode cX6_takeStep 9 = .ok (.getfield 50, 3) := by decide +kernel
theorem dX6_takeStep_12 : decode cX6_takeStep 12 = .ok (.invokevirtual 241, 3) := by decide +kernel
theorem dX6_takeStep_15 : decode cX6_takeStep 15 = .ok (.lstore_n 3, 1) := by decide +kernel
theorem dX6_takeStep_16 : decode cX6_takeStep 16 = .ok (.aload_n 0, 1) := by decide +kernel
theorem dX6_takeStep_17 : decode cX6_takeStep 17 = .ok (.getfield 50, 3) := by decide +kernel
theorem dX6_takeStep_20 : decode cX6_takeStep 20 = .ok (.invokevirtual 293, 3) := by decide +kernel
theorem dX6_takeStep_23 : decode cX6_takeStep 23 = .ok (.lload_n 1, 1) := by decide +kernel
theorem dX6_takeStep_24 : decode cX6_takeStep 24 = .ok (.lload_n 3, 1) := by decide +kernel
theorem dX6_takeStep_25 : decode cX6_takeStep 25 = .ok (.lcmp, 1) := by decide +kernel
theorem dX6_takeStep_26 : decode cX6_takeStep 26 = .ok (.ifCond .ne 33, 3) := by decide +kernel
theorem dX6_takeStep_29 : decode cX6_takeStep 29 = .ok (.lload_n 1, 1) := by decide +kernel
theorem dX6_takeStep_30 : decode cX6_takeStep 30 = .ok (.invokestatic 177, 3) := by decide +kernel
theorem dX6_takeStep_33 : decode cX6_takeStep 33 = .ok (.ldc2_w 60, 3) := by decide +kernel
theorem dX6_takeStep_36 : decode cX6_takeStep 36 = .ok (.lcmp, 1) := by decide +kernel
theorem dX6_takeStep_37 : decode cX6_takeStep 37 = .ok (.ifCond .eq 21, 3) := by decide +kernel
theorem dX6_takeStep_40 : decode cX6_takeStep 40 = .ok (.aload_n 0, 1) := by decide +kernel
theorem dX6_takeStep_41 : decode cX6_takeStep 41 = .ok (.lload_n 1, 1) := by decide +kernel
theorem dX6_takeStep_42 : decode cX6_takeStep 42 = .ok (.invokevirtual 296, 3) := by decide +kernel
theorem dX6_takeStep_45 : decode cX6_takeStep 45 = .ok (.iconst 2, 1) := by decide +kernel
theorem dX6_takeStep_46 : decode cX6_takeStep 46 = .ok (.if_icmp .ne 12, 3) := by decide +kernel
theorem dX6_takeStep_49 : decode cX6_takeStep 49 = .ok (.aload_n 0, 1) := by decide +kernel
theorem dX6_takeStep_50 : decode cX6_takeStep 50 = .ok (.getfield 50, 3) := by decide +kernel
theorem dX6_takeStep_53 : decode cX6_takeStep 53 = .ok (.lload_n 1, 1) := by decide +kernel
theorem dX6_takeStep_54 : decode cX6_takeStep 54 = .ok (.lload_n 3, 1) := by decide +kernel
theorem dX6_takeStep_55 : decode cX6_takeStep 55 = .ok (.invokevirtual 300, 3) := by decide +kernel
theorem dX6_takeStep_58 : decode cX6_takeStep 58 = .ok (.return_, 1) := by decide +kernel
theorem dX6_takeStep_59 : decode cX6_takeStep 59 = .ok (.aload_n 0, 1) := by decide +kernel
theorem dX6_takeStep_60 : decode cX6_takeStep 60 = .ok (.lload_n 1, 1) := by decide +kernel
theorem dX6_takeStep_61 : decode cX6_takeStep 61 = .ok (.lload_n 3, 1) := by decide +kernel
theorem dX6_takeStep_62 : decode cX6_takeStep 62 = .ok (.invokevirtual 304, 3) := by decide +kernel
theorem dX6_takeStep_65 : decode cX6_takeStep 65 = .ok (.aload_n 0, 1) := by decide +kernel
theorem dX6_takeStep_66 : decode cX6_takeStep 66 = .ok (.invokevirtual 118, 3) := by decide +kernel
theorem dX6_takeStep_69 : decode cX6_takeStep 69 = .ok (.aload_n 0, 1) := by decide +kernel
theorem dX6_takeStep_70 : decode cX6_takeStep 70 = .ok (.getfield 26, 3) := by decide +kernel
theorem dX6_takeStep_73 : decode cX6_takeStep 73 = .ok (.invokevirtual 99, 3) := by decide +kernel
theorem dX6_takeStep_76 : decode cX6_takeStep 76 = .ok (.ifCond .ne 4, 3) := by decide +kernel
theorem dX6_takeStep_79 : decode cX6_takeStep 79 = .ok (.return_, 1) := by decide +kernel
theorem dX6_takeStep_80 : decode cX6_takeStep 80 = .ok (.aload_n 0, 1) := by decide +kernel
theorem dX6_takeStep_81 : decode cX6_takeStep 81 = .ok (.getfield 26, 3) := by decide +kernel
theorem dX6_takeStep_84 : decode cX6_takeStep 84 = .ok (.invokestatic 307, 3) := by decide +kernel
theorem dX6_takeStep_87 : decode cX6_takeStep 87 = .ok (.lstore 5, 2) := by decide +kernel
theorem dX6_takeStep_89 : decode cX6_takeStep 89 = .ok (.lload 5, 2) := by decide +kernel
theorem dX6_takeStep_91 : decode cX6_takeStep 91 = .ok (.lload_n 1, 1) := by decide +kernel
theorem dX6_takeStep_92 : decode cX6_takeStep 92 = .ok (.lcmp, 1) := by decide +kernel
theorem dX6_takeStep_93 : decode cX6_takeStep 93 = .ok (.ifCond .lt 38, 3) := by decide +kernel
theorem dX6_takeStep_96 : decode cX6_takeStep 96 = .ok (.lload 5, 2) := by decide +kernel
theorem dX6_takeStep_98 : decode cX6_takeStep 98 = .ok (.lload_n 3, 1) := by decide +kernel
theorem dX6_takeStep_99 : decode cX6_takeStep 99 = .ok (.lcmp, 1) := by decide +kernel
theorem dX6_takeStep_100 : decode cX6_takeStep 100 = .ok (.ifCond .gt 31, 3) := by decide +kernel
theorem dX6_takeStep_103 : decode cX6_takeStep 103 = .ok (.lload 5, 2) := by decide +kernel
theorem dX6_takeStep_105 : decode cX6_takeStep 105 = .ok (.invokestatic 177, 3) := by decide +kernel
theorem dX6_takeStep_108 : decode cX6_takeStep 108 = .ok (.ldc2_w 60, 3) := by decide +kernel
theorem dX6_takeStep_111 : decode cX6_takeStep 111 = .ok (.lcmp, 1) := by decide +kernel
theorem dX6_takeStep_112 : decode cX6_takeStep 112 = .ok (.ifCond .eq 19, 3) := by decide +kernel
theorem dX6_takeStep_115 : decode cX6_takeStep 115 = .ok (.aload_n 0, 1) := by decide +kernel
theorem dX6_takeStep_116 : decode cX6_takeStep 116 = .ok (.getfield 50, 3) := by decide +kernel
theorem dX6_takeStep_119 : decode cX6_takeStep 119 = .ok (.lload 5, 2) := by decide +kernel
theorem dX6_takeStep_121 : decode cX6_takeStep 121 = .ok (.invokevirtual 313, 3) := by decide +kernel
theorem dX6_takeStep_124 : decode cX6_takeStep 124 = .ok (.ifCond .ne 7, 3) := by decide +kernel
theorem dX6_takeStep_127 : decode cX6_takeStep 127 = .ok (.iconst 1, 1) := by decide +kernel
theorem dX6_takeStep_128 : decode cX6_takeStep 128 = .ok (.goto 4, 3) := by decide +kernel
theorem dX6_takeStep_131 : decode cX6_takeStep 131 = .ok (.iconst 0, 1) := by decide +kernel
theorem dX6_takeStep_132 : decode cX6_takeStep 132 = .ok (.istore 7, 2) := by decide +kernel
theorem dX6_takeStep_134 : decode cX6_takeStep 134 = .ok (.iload 7, 2) := by decide +kernel
theorem dX6_takeStep_136 : decode cX6_takeStep 136 = .ok (.ifCond .eq 22, 3) := by decide +kernel
theorem dX6_takeStep_139 : decode cX6_takeStep 139 = .ok (.aload_n 0, 1) := by decide +kernel
theorem dX6_takeStep_140 : decode cX6_takeStep 140 = .ok (.lload 5, 2) := by decide +kernel
theorem dX6_takeStep_142 : decode cX6_takeStep 142 = .ok (.invokevirtual 296, 3) := by decide +kernel
theorem dX6_takeStep_145 : decode cX6_takeStep 145 = .ok (.ifCond .eq 13, 3) := by decide +kernel
theorem dX6_takeStep_148 : decode cX6_takeStep 148 = .ok (.aload_n 0, 1) := by decide +kernel
theorem dX6_takeStep_149 : decode cX6_takeStep 149 = .ok (.getfield 50, 3) := by decide +kernel
theorem dX6_takeStep_152 : decode cX6_takeStep 152 = .ok (.lload_n 1, 1) := by decide +kernel
theorem dX6_takeStep_153 : decode cX6_takeStep 153 = .ok (.lload_n 3, 1) := by decide +kernel
theorem dX6_takeStep_154 : decode cX6_takeStep 154 = .ok (.invokevirtual 300, 3) := by decide +kernel
theorem dX6_takeStep_157 : decode cX6_takeStep 157 = .ok (.return_, 1) := by decide +kernel
theorem dX6_takeStep_158 : decode cX6_takeStep 158 = .ok (.lload_n 1, 1) := by decide +kernel
theorem dX6_takeStep_159 : decode cX6_takeStep 159 = .ok (.lload_n 3, 1) := by decide +kernel
theorem dX6_takeStep_160 : decode cX6_takeStep 160 = .ok (.ladd, 1) := by decide +kernel
theorem dX6_takeStep_161 : decode cX6_takeStep 161 = .ok (.iconst 1, 1) := by decide +kernel
theorem dX6_takeStep_162 : decode cX6_takeStep 162 = .ok (.lushr, 1) := by decide +kernel
theorem dX6_takeStep_163 : decode cX6_takeStep 163 = .ok (.lstore 8, 2) := by decide +kernel
theorem dX6_takeStep_165 : decode cX6_takeStep 165 = .ok (.aload_n 0, 1) := by decide +kernel
theorem dX6_takeStep_166 : decode cX6_takeStep 166 = .ok (.getfield 50, 3) := by decide +kernel
theorem dX6_takeStep_169 : decode cX6_takeStep 169 = .ok (.lload 8, 2) := by decide +kernel
theorem dX6_takeStep_171 : decode cX6_takeStep 171 = .ok (.lconst 1, 1) := by decide +kernel
theorem dX6_takeStep_172 : decode cX6_takeStep 172 = .ok (.ladd, 1) := by decide +kernel
theorem dX6_takeStep_173 : decode cX6_takeStep 173 = .ok (.lload_n 3, 1) := by decide +kernel
theorem dX6_takeStep_174 : decode cX6_takeStep 174 = .ok (.invokevirtual 300, 3) := by decide +kernel
theorem dX6_takeStep_177 : decode cX6_takeStep 177 = .ok (.aload_n 0, 1) := by decide +kernel
theorem dX6_takeStep_178 : decode cX6_takeStep 178 = .ok (.getfield 50, 3) := by decide +kernel
theorem dX6_takeStep_181 : decode cX6_takeStep 181 = .ok (.lload_n 1, 1) := by decide +kernel
theorem dX6_takeStep_182 : decode cX6_takeStep 182 = .ok (.lload 8, 2) := by decide +kernel
theorem dX6_takeStep_184 : decode cX6_takeStep 184 = .ok (.invokevirtual 300, 3) := by decide +kernel
theorem dX6_takeStep_187 : decode cX6_takeStep 187 = .ok (.return_, 1) := by decide +kernel
theorem dX6_tryId_0 : decode cX6_tryId 0 = .ok (.aload_n 0, 1) := by decide +kernel
theorem dX6_tryId_1 : decode cX6_tryId 1 = .ok (.lload_n 1, 1) := by decide +kernel
theorem dX6_tryId_2 : decode cX6_tryId 2 = .ok (.iconst 2, 1) := by decide +kernel
theorem dX6_tryId_3 : decode cX6_tryId 3 = .ok (.invokevirtual 207, 3) := by decide +kernel
theorem dX6_tryId_6 : decode cX6_tryId 6 = .ok (.aload_n 0, 1) := by decide +kernel
theorem dX6_tryId_7 : decode cX6_tryId 7 = .ok (.invokevirtual 118, 3) := by decide +kernel
theorem dX6_tryId_10 : decode cX6_tryId 10 = .ok (.aload_n 0, 1) := by decide +kernel
theorem dX6_tryId_11 : decode cX6_tryId 11 = .ok (.getfield 26, 3) := by decide +kernel
theorem dX6_tryId_14 : decode cX6_tryId 14 = .ok (.invokevirtual 99, 3) := by decide +kernel
theorem dX6_tryId_17 : decode cX6_tryId 17 = .ok (.ifCond .ne 5, 3) := by decide +kernel
theorem dX6_tryId_20 : decode cX6_tryId 20 = .ok (.iconst 0, 1) := by decide +kernel
theorem dX6_tryId_21 : decode cX6_tryId 21 = .ok (.ireturn, 1) := by decide +kernel
theorem dX6_tryId_22 : decode cX6_tryId 22 = .ok (.aload_n 0, 1) := by decide +kernel
theorem dX6_tryId_23 : decode cX6_tryId 23 = .ok (.lload_n 1, 1) := by decide +kernel
theorem dX6_tryId_24 : decode cX6_tryId 24 = .ok (.invokevirtual 148, 3) := by decide +kernel
theorem dX6_tryId_27 : decode cX6_tryId 27 = .ok (.ifCond .eq 46, 3) := by decide +kernel
theorem dX6_tryId_30 : decode cX6_tryId 30 = .ok (.aload_n 0, 1) := by decide +kernel
theorem dX6_tryId_31 : decode cX6_tryId 31 = .ok (.getfield 34, 3) := by decide +kernel
theorem dX6_tryId_34 : decode cX6_tryId 34 = .ok (.getfield 287, 3) := by decide +kernel
theorem dX6_tryId_37 : decode cX6_tryId 37 = .ok (.bipush 17, 2) := by decide +kernel
theorem dX6_tryId_39 : decode cX6_tryId 39 = .ok (.if_icmp .ne 34, 3) := by decide +kernel
theorem dX6_tryId_42 : decode cX6_tryId 42 = .ok (.aload_n 0, 1) := by decide +kernel
theorem dX6_tryId_43 : decode cX6_tryId 43 = .ok (.getfield 34, 3) := by decide +kernel
theorem dX6_tryId_46 : decode cX6_tryId 46 = .ok (.getfield 290, 3) := by decide +kernel
theorem dX6_tryId_49 : decode cX6_tryId 49 = .ok (.iconst 2, 1) := by decide +kernel
theorem dX6_tryId_50 : decode cX6_tryId 50 = .ok (.if_icmp .ne 23, 3) := by decide +kernel
theorem dX6_tryId_53 : decode cX6_tryId 53 = .ok (.aload_n 0, 1) := by decide +kernel
theorem dX6_tryId_54 : decode cX6_tryId 54 = .ok (.getfield 34, 3) := by decide +kernel
theorem dX6_tryId_57 : decode cX6_tryId 57 = .ok (.getfield 151, 3) := by decide +kernel
theorem dX6_tryId_60 : decode cX6_tryId 60 = .ok (.ifCond .ne 13, 3) := by decide +kernel
theorem dX6_tryId_63 : decode cX6_tryId 63 = .ok (.aload_n 0, 1) := by decide +kernel
theorem dX6_tryId_64 : decode cX6_tryId 64 = .ok (.getfield 50, 3) := by decide +kernel
theorem dX6_tryId_67 : decode cX6_tryId 67 = .ok (.lload_n 1, 1) := by decide +kernel
theorem dX6_tryId_68 : decode cX6_tryId 68 = .ok (.invokevirtual 316, 3) := by decide +kernel
theorem dX6_tryId_71 : decode cX6_tryId 71 = .ok (.iconst 1, 1) := by decide +kernel
theorem dX6_tryId_72 : decode cX6_tryId 72 = .ok (.ireturn, 1) := by decide +kernel
theorem dX6_tryId_73 : decode cX6_tryId 73 = .ok (.aload_n 0, 1) := by decide +kernel
theorem dX6_tryId_74 : decode cX6_tryId 74 = .ok (.lload_n 1, 1) := by decide +kernel
theorem dX6_tryId_75 : decode cX6_tryId 75 = .ok (.iconst 3, 1) := by decide +kernel
theorem dX6_tryId_76 : decode cX6_tryId 76 = .ok (.invokevirtual 207, 3) := by decide +kernel
theorem dX6_tryId_79 : decode cX6_tryId 79 = .ok (.aload_n 0, 1) := by decide +kernel
theorem dX6_tryId_80 : decode cX6_tryId 80 = .ok (.invokevirtual 118, 3) := by decide +kernel
theorem dX6_tryId_83 : decode cX6_tryId 83 = .ok (.iconst 2, 1) := by decide +kernel
theorem dX6_tryId_84 : decode cX6_tryId 84 = .ok (.ireturn, 1) := by decide +kernel
end
section
theorem dX7_init_0 : decode cX7_init 0 = .ok (.aload_n 0, 1) := by decide +kernel
theorem dX7_init_1 : decode cX7_init 1 = .ok (.invokespecial 1, 3) := by decide +kernel
theorem dX7_init_4 : decode cX7_init 4 = .ok (.aload_n 0, 1) := by decide +kernel
theorem dX7_init_5 : decode cX7_init 5 = .ok (.bipush 24, 2) := by decide +kernel
theorem dX7_init_7 : decode cX7_init 7 = .ok (.newarray .int, 2) := by decide +kernel
theorem dX7_init_9 : decode cX7_init 9 = .ok (.putfield 7, 3) := by decide +kernel
theorem dX7_init_12 : decode cX7_init 12 = .ok (.aload_n 0, 1) := by decide +kernel
theorem dX7_init_13 : decode cX7_init 13 = .ok (.bipush 24, 2) := by decide +kernel
theorem dX7_init_15 : decode cX7_init 15 = .ok (.newarray .long, 2) := by decide +kernel
theorem dX7_init_17 : decode cX7_init 17 = .ok (.putfield 13, 3) := by decide +kernel
theorem dX7_init_20 : decode cX7_init 20 = .ok (.aload_n 0, 1) := by decide +kernel
theorem dX7_init_21 : decode cX7_init 21 = .ok (.bipush 24, 2) := by decide +kernel
theorem dX7_init_23 : decode cX7_init 23 = .ok (.newarray .int, 2) := by decide +kernel
theorem dX7_init_25 : decode cX7_init 25 = .ok (.putfield 17, 3) := by decide +kernel
theorem dX7_init_28 : decode cX7_init 28 = .ok (.aload_n 0, 1) := by decide +kernel
theorem dX7_init_29 : decode cX7_init 29 = .ok (.bipush 24, 2) := by decide +kernel
theorem dX7_init_31 : decode cX7_init 31 = .ok (.newarray .int, 2) := by decide +kernel
theorem dX7_init_33 : decode cX7_init 33 = .ok (.putfield 20, 3) := by decide +kernel
theorem dX7_init_36 : decode cX7_init 36 = .ok (.aload_n 0, 1) := by decide +kernel
theorem dX7_init_37 : decode cX7_init 37 = .ok (.bipush 24, 2) := by decide +kernel
theorem dX7_init_39 : decode cX7_init 39 = .ok (.newarray .int, 2) := by decide +kernel
theorem dX7_init_41 : decode cX7_init 41 = .ok (.putfield 23, 3) := by decide +kernel
theorem dX7_init_44 : decode cX7_init 44 = .ok (.aload_n 0, 1) := by decide +kernel
theorem dX7_init_45 : decode cX7_init 45 = .ok (.bipush 24, 2) := by decide +kernel
theorem dX7_init_47 : decode cX7_init 47 = .ok (.newarray .int, 2) := by decide +kernel
theorem dX7_init_49 : decode cX7_init 49 = .ok (.putfield 26, 3) := by decide +kernel
theorem dX7_init_52 : decode cX7_init 52 = .ok (.aload_n 0, 1) := by decide +kernel
theorem dX7_init_53 : decode cX7_init 53 = .ok (.bipush 24, 2) := by decide +kernel
theorem dX7_init_55 : decode cX7_init 55 = .ok (.newarray .boolean, 2) := by decide +kernel
theorem dX7_init_57 : decode cX7_init 57 = .ok (.putfield 29, 3) := by decide +kernel
theorem dX7_init_60 : decode cX7_init 60 = .ok (.aload_n 0, 1) := by decide +kernel
theorem dX7_init_61 : decode cX7_init 61 = .ok (.bipush 24, 2) := by decide +kernel
theorem dX7_init_63 : decode cX7_init 63 = .ok (.newarray .boolean, 2) := by decide +kernel
theorem dX7_init_65 : decode cX7_init 65 = .ok (.putfield 33, 3) := by decide +kernel
theorem dX7_init_68 : decode cX7_init 68 = .ok (.aload_n 0, 1) := by decide +kernel
theorem dX7_init_69 : decode cX7_init 69 = .ok (.bipush 24, 2) := by decide +kernel
theorem dX7_init_71 : decode cX7_init 71 = .ok (.newarray .int, 2) := by decide +kernel
theorem dX7_init_73 : decode cX7_init 73 = .ok (.putfield 36, 3) := by decide +kernel
theorem dX7_init_76 : decode cX7_init 76 = .ok (.aload_n 0, 1) := by decide +kernel
theorem dX7_init_77 : decode cX7_init 77 = .ok (.sipush 768, 3) := by decide +kernel
theorem dX7_init_80 : decode cX7_init 80 = .ok (.newarray .byte, 2) := by decide +kernel
theorem dX7_init_82 : decode cX7_init 82 = .ok (.putfield 39, 3) := by decide +kernel
theorem dX7_init_85 : decode cX7_init 85 = .ok (.aload_n 0, 1) := by decide +kernel
theorem dX7_init_86 : decode cX7_init 86 = .ok (.bipush 24, 2) := by decide +kernel
theorem dX7_init_88 : decode cX7_init 88 = .ok (.newarray .int, 2) := by decide +kernel
theorem dX7_init_90 : decode cX7_init 90 = .ok (.putfield 43, 3) := by decide +kernel
theorem dX7_init_93 : decode cX7_init 93 = .ok (.aload_n 0, 1) := by decide +kernel
theorem dX7_init_94 : decode cX7_init 94 = .ok (.sipush 12288, 3) := by decide +kernel
theorem dX7_init_97 : decode cX7_init 97 = .ok (.newarray .int, 2) := by decide +kernel
theorem dX7_init_99 : decode cX7_init 99 = .ok (.putfield 46, 3) := by decide +kernel
theorem dX7_init_102 : decode cX7_init 102 = .ok (.aload_n 0, 1) := by decide +kernel
theorem dX7_init_103 : decode cX7_init 103 = .ok (.bipush 24, 2) := by decide +kernel
theorem dX7_init_105 : decode cX7_init 105 = .ok (.newarray .int, 2) := by decide +kernel
theorem dX7_init_107 : decode cX7_init 107 = .ok (.putfield 49, 3) := by decide +kernel
theorem dX7_init_110 : decode cX7_init 110 = .ok (.aload_n 0, 1) := by decide +kernel
theorem dX7_init_111 : decode cX7_init 111 = .ok (.bipush 24, 2) := by decide +kernel
theorem dX7_init_113 : decode cX7_init 113 = .ok (.newarray .int, 2) := by decide +kernel
theorem dX7_init_115 : decode cX7_init 115 = .ok (.putfield 52, 3) := by decide +kernel
theorem dX7_init_118 : decode cX7_init 118 = .ok (.aload_n 0, 1) := by decide +kernel
theorem dX7_init_119 : decode cX7_init 119 = .ok (.bipush 96, 2) := by decide +kernel
theorem dX7_init_121 : decode cX7_init 121 = .ok (.newarray .int, 2) := by decide +kernel
theorem dX7_init_123 : decode cX7_init 123 = .ok (.putfield 55, 3) := by decide +kernel
theorem dX7_init_126 : decode cX7_init 126 = .ok (.aload_n 0, 1) := by decide +kernel
theorem dX7_init_127 : decode cX7_init 127 = .ok (.bipush 96, 2) := by decide +kernel
theorem dX7_init_129 : decode cX7_init 129 = .ok (.newarray .int, 2) := by decide +kernel
theorem dX7_init_131 : decode cX7_init 131 = .ok (.putfield 58, 3) := by decide +kernel
theorem dX7_init_134 : decode cX7_init 134 = .ok (.aload_n 0, 1) := by decide +kernel
theorem dX7_init_135 : decode cX7_init 135 = .ok (.sipush 3072, 3) := by decide +kernel
theorem dX7_init_138 : decode cX7_init 138 = .ok (.newarray .byte, 2) := by decide +kernel
theorem dX7_init_140 : decode cX7_init 140 = .ok (.putfield 61, 3) := by decide +kernel
theorem dX7_init_143 : decode cX7_init 143 = .ok (.aload_n 0, 1) := by decide +kernel
theorem dX7_init_144 : decode cX7_init 144 = .ok (.sipush 520, 3) := by decide +kernel
theorem dX7_init_147 : decode cX7_init 147 = .ok (.newarray .byte, 2) := by decide +kernel
theorem dX7_init_149 : decode cX7_init 149 = .ok (.putfield 64, 3) := by decide +kernel
theorem dX7_init_152 : decode cX7_init 152 = .ok (.aload_n 0, 1) := by decide +kernel
theorem dX7_init_153 : decode cX7_init 153 = .ok (.sipush 513, 3) := by decide +kernel
theorem dX7_init_156 : decode cX7_init 156 = .ok (.newarray .byte, 2) := by decide +kernel
theorem dX7_init_158 : decode cX7_init 158 = .ok (.putfield 67, 3) := by decide +kernel
theorem dX7_init_161 : decode cX7_init 161 = .ok (.aload_n 0, 1) := by decide +kernel
theorem dX7_init_162 : decode cX7_init 162 = .ok (.sipush 300, 3) := by decide +kernel
theorem dX7_init_165 : decode cX7_init 165 = .ok (.newarray .byte, 2) := by decide +kernel
theorem dX7_init_167 : decode cX7_init 167 = .ok (.putfield 70, 3) := by decide +kernel
theorem dX7_init_170 : decode cX7_init 170 = .ok (.aload_n 0, 1) := by decide +kernel
theorem dX7_init_171 : decode cX7_init 171 = .ok (.sipush 300, 3) := by decide +kernel
theorem dX7_init_174 : decode cX7_init 174 = .ok (.newarray .byte, 2) := by decide +kernel
theorem dX7_init_176 : decode cX7_init 176 = .ok (.putfield 73, 3) := by decide +kernel
theorem dX7_init_179 : decode cX7_init 179 = .ok (.aload_n 0, 1) := by decide +kernel
theorem dX7_init_180 : decode cX7_init 180 = .ok (.bipush 16, 2) := by decide +kernel
theorem dX7_init_182 : decode cX7_init 182 = .ok (.newarray .int, 2) := by decide +kernel
theorem dX7_init_184 : decode cX7_init 184 = .ok (.putfield 76, 3) := by decide +kernel
theorem dX7_init_187 : decode cX7_init 187 = .ok (.aload_n 0, 1) := by decide +kernel
theorem dX7_init_188 : decode cX7_init 188 = .ok (.bipush 16, 2) := by decide +kernel
theorem dX7_init_190 : decode cX7_init 190 = .ok (.newarray .int, 2) := by decide +kernel
theorem dX7_init_192 : decode cX7_init 192 = .ok (.putfield 79, 3) := by decide +kernel
theorem dX7_init_195 : decode cX7_init 195 = .ok (.aload_n 0, 1) := by decide +kernel
theorem dX7_init_196 : decode cX7_init 196 = .ok (.sipush 128, 3) := by decide +kernel
theorem dX7_init_199 : decode cX7_init 199 = .ok (.newarray .long, 2) := by decide +kernel
theorem dX7_init_201 : decode cX7_init 201 = .ok (.putfield 82, 3) := by decide +kernel
theorem dX7_init_204 : decode cX7_init 204 = .ok (.aload_n 0, 1) := by decide +kernel
theorem dX7_init_205 : decode cX7_init 205 = .ok (.sipush 128, 3) := by decide +kernel
theorem dX7_init_208 : decode cX7_init 208 = .ok (.newarray .long, 2) := by decide +kernel
theorem dX7_init_210 : decode cX7_init 210 = .ok (.putfield 85, 3) := by decide +kernel
theorem dX7_init_213 : decode cX7_init 213 = .ok (.aload_n 0, 1) := by decide +kernel
theorem dX7_init_214 : decode cX7_init 214 = .ok (.bipush 24, 2) := by decide +kernel
theorem dX7_init_216 : decode cX7_init 216 = .ok (.newarray .long, 2) := by decide +kernel
theorem dX7_init_218 : decode cX7_init 218 = .ok (.putfield 88, 3) := by decide +kernel
theorem dX7_init_221 : decode cX7_init 221 = .ok (.return_, 1) := by decide +kernel
theorem dX7_thrown_0 : decode cX7_thrown 0 = .ok (.aload_n 0, 1) := by decide +kernel
theorem dX7_thrown_1 : decode cX7_thrown 1 = .ok (.getfield 91, 3) := by decide +kernel
theorem dX7_thrown_4 : decode cX7_thrown 4 = .ok (.ireturn, 1) := by decide +kernel
theorem dX7_in_0 : decode cX7_in 0 = .ok (.lload_n 0, 1) := by decide +kernel
theorem dX7_in_1 : decode cX7_in 1 = .ok (.lload_n 2, 1) := by decide +kernel
theorem dX7_in_2 : decode cX7_in 2 = .ok (.lcmp, 1) := by decide +kernel
theorem dX7_in_3 : decode cX7_in 3 = .ok (.ifCond .lt 14, 3) := by decide +kernel
theorem dX7_in_6 : decode cX7_in 6 = .ok (.lload_n 0, 1) := by decide +kernel
theorem dX7_in_7 : decode cX7_in 7 = .ok (.lload 4, 2) := by decide +kernel
theorem dX7_in_9 : decode cX7_in 9 = .ok (.lcmp, 1) := by decide +kernel
theorem dX7_in_10 : decode cX7_in 10 = .ok (.ifCond .gt 7, 3) := by decide +kernel
theorem dX7_in_13 : decode cX7_in 13 = .ok (.iconst 1, 1) := by decide +kernel
theorem dX7_in_14 : decode cX7_in 14 = .ok (.goto 4, 3) := by decide +kernel
theorem dX7_in_17 : decode cX7_in 17 = .ok (.iconst 0, 1) := by decide +kernel
theorem dX7_in_18 : decode cX7_in 18 = .ok (.ireturn, 1) := by decide +kernel
theorem dX7_goes_0 : decode cX7_goes 0 = .ok (.aload_n 0, 1) := by decide +kernel
theorem dX7_goes_1 : decode cX7_goes 1 = .ok (.iload_n 1, 1) := by decide +kernel
theorem dX7_goes_2 : decode cX7_goes 2 = .ok (.ifCond .eq 7, 3) := by decide +kernel
theorem dX7_goes_5 : decode cX7_goes 5 = .ok (.iconst 0, 1) := by decide +kernel
theorem dX7_goes_6 : decode cX7_goes 6 = .ok (.goto 4, 3) := by decide +kernel
theorem dX7_goes_9 : decode cX7_goes 9 = .ok (.iconst 1, 1) := by decide +kernel
theorem dX7_goes_10 : decode cX7_goes 10 = .ok (.putfield 91, 3) := by decide +kernel
theorem dX7_goes_13 : decode cX7_goes 13 = .ok (.iload_n 1, 1) := by decide +kernel
theorem dX7_goes_14 : decode cX7_goes 14 = .ok (.ireturn, 1) := by decide +kernel
theorem dX7_idOf_0 : decode cX7_idOf 0 = .ok (.iload_n 0, 1) := by decide +kernel
theorem dX7_idOf_1 : decode cX7_idOf 1 = .ok (.i2l, 1) := by decide +kernel
theorem dX7_idOf_2 : decode cX7_idOf 2 = .ok (.bipush 32, 2) := by decide +kernel
theorem dX7_idOf_4 : decode cX7_idOf 4 = .ok (.lshl, 1) := by decide +kernel
theorem dX7_idOf_5 : decode cX7_idOf 5 = .ok (.lload_n 1, 1) := by decide +kernel
theorem dX7_idOf_6 : decode cX7_idOf 6 = .ok (.lor, 1) := by decide +kernel
theorem dX7_idOf_7 : decode cX7_idOf 7 = .ok (.lreturn, 1) := by decide +kernel
theorem dX7_ownId_0 : decode cX7_ownId 0 = .ok (.aload_n 0, 1) := by decide +kernel
theorem dX7_ownId_1 : decode cX7_ownId 1 = .ok (.getfield 7, 3) := by decide +kernel
theorem dX7_ownId_4 : decode cX7_ownId 4 = .ok (.iload_n 1, 1) := by decide +kernel
theorem dX7_ownId_5 : decode cX7_ownId 5 = .ok (.iaload, 1) := by decide +kernel
theorem dX7_ownId_6 : decode cX7_ownId 6 = .ok (.aload_n 0, 1) := by decide +kernel
theorem dX7_ownId_7 : decode cX7_ownId 7 = .ok (.getfield 13, 3) := by decide +kernel
theorem dX7_ownId_10 : decode cX7_ownId 10 = .ok (.iload_n 1, 1) := by decide +kernel
theorem dX7_ownId_11 : decode cX7_ownId 11 = .ok (.laload, 1) := by decide +kernel
theorem dX7_ownId_12 : decode cX7_ownId 12 = .ok (.invokestatic 95, 3) := by decide +kernel
theorem dX7_ownId_15 : decode cX7_ownId 15 = .ok (.lreturn, 1) := by decide +kernel
theorem dX7_lamp_0 : decode cX7_lamp 0 = .ok (.iload_n 1, 1) := by decide +kernel
theorem dX7_lamp_1 : decode cX7_lamp 1 = .ok (.i2l, 1) := by decide +kernel
theorem dX7_lamp_2 : decode cX7_lamp 2 = .ok (.lconst 1, 1) := by decide +kernel
theorem dX7_lamp_3 : decode cX7_lamp 3 = .ok (.ldc2_w 99, 3) := by decide +kernel
theorem dX7_lamp_6 : decode cX7_lamp 6 = .ok (.invokestatic 101, 3) := by decide +kernel
theorem dX7_lamp_9 : decode cX7_lamp 9 = .ok (.ifCond .eq 68, 3) := by decide +kernel
theorem dX7_lamp_12 : decode cX7_lamp 12 = .ok (.lload_n 2, 1) := by decide +kernel
theorem dX7_lamp_13 : decode cX7_lamp 13 = .ok (.lconst 0, 1) := by decide +kernel
theorem dX7_lamp_14 : decode cX7_lamp 14 = .ok (.ldc2_w 105, 3) := by decide +kernel
theorem dX7_lamp_17 : decode cX7_lamp 17 = .ok (.invokestatic 101, 3) := by decide +kernel
theorem dX7_lamp_20 : decode cX7_lamp 20 = .ok (.ifCond .eq 57, 3) := by decide +kernel
theorem dX7_lamp_23 : decode cX7_lamp 23 = .ok (.iload 4, 2) := by decide +kernel
theorem dX7_lamp_25 : decode cX7_lamp 25 = .ok (.i2l, 1) := by decide +kernel
theorem dX7_lamp_26 : decode cX7_lamp 26 = .ok (.lconst 1, 1) := by decide +kernel
theorem dX7_lamp_27 : decode cX7_lamp 27 = .ok (.ldc2_w 107, 3) := by decide +kernel
theorem dX7_lamp_30 : decode cX7_lamp 30 = .ok (.invokestatic 101, 3) := by decide +kernel
theorem dX7_lamp_33 : decode cX7_lamp 33 = .ok (.ifCond .eq 44, 3) := by decide +kernel
theorem dX7_lamp_36 : decode cX7_lamp 36 = .ok (.iload 5, 2) := by decide +kernel
theorem dX7_lamp_38 : decode cX7_lamp 38 = .ok (.i2l, 1) := by decide +kernel
theorem dX7_lamp_39 : decode cX7_lamp 39 = .ok (.lconst 1, 1) := by decide +kernel
theorem dX7_lamp_40 : decode cX7_lamp 40 = .ok (.ldc2_w 109, 3) := by decide +kernel
theorem dX7_lamp_43 : decode cX7_lamp 43 = .ok (.invokestatic 101, 3) := by decide +kernel
theorem dX7_lamp_46 : decode cX7_lamp 46 = .ok (.ifCond .eq 31, 3) := by decide +kernel
theorem dX7_lamp_49 : decode cX7_lamp 49 = .ok (.iload 6, 2) := by decide +kernel
theorem dX7_lamp_51 : decode cX7_lamp 51 = .ok (.i2l, 1) := by decide +kernel
theorem dX7_lamp_52 : decode cX7_lamp 52 = .ok (.lconst 1, 1) := by decide +kernel
theorem dX7_lamp_53 : decode cX7_lamp 53 = .ok (.ldc2_w 111, 3) := by decide +kernel
theorem dX7_lamp_56 : decode cX7_lamp 56 = .ok (.invokestatic 101, 3) := by decide +kernel
theorem dX7_lamp_59 : decode cX7_lamp 59 = .ok (.ifCond .eq 18, 3) := by decide +kernel
theorem dX7_lamp_62 : decode cX7_lamp 62 = .ok (.iload 6, 2) := by decide +kernel
theorem dX7_lamp_64 : decode cX7_lamp 64 = .ok (.iload 4, 2) := by decide +kernel
theorem dX7_lamp_66 : decode cX7_lamp 66 = .ok (.iadd, 1) := by decide +kernel
theorem dX7_lamp_67 : decode cX7_lamp 67 = .ok (.sipush 513, 3) := by decide +kernel
theorem dX7_lamp_70 : decode cX7_lamp 70 = .ok (.if_icmp .gt 7, 3) := by decide +kernel
theorem dX7_lamp_73 : decode cX7_lamp 73 = .ok (.iconst 1, 1) := by decide +kernel
theorem dX7_lamp_74 : decode cX7_lamp 74 = .ok (.goto 4, 3) := by decide +kernel
theorem dX7_lamp_77 : decode cX7_lamp 77 = .ok (.iconst 0, 1) := by decide +kernel
theorem dX7_lamp_78 : decode cX7_lamp 78 = .ok (.istore 7, 2) := by decide +kernel
theorem dX7_lamp_80 : decode cX7_lamp 80 = .ok (.iconst 0, 1) := by decide +kernel
theorem dX7_lamp_81 : decode cX7_lamp 81 = .ok (.istore 8, 2) := by decide +kernel
theorem dX7_lamp_83 : decode cX7_lamp 83 = .ok (.iload 8, 2) := by decide +kernel
theorem dX7_lamp_85 : decode cX7_lamp 85 = .ok (.aload_n 0, 1) := by decide +kernel
theorem dX7_lamp_86 : decode cX7_lamp 86 = .ok (.getfield 113, 3) := by decide +kernel
theorem dX7_lamp_89 : decode cX7_lamp 89 = .ok (.if_icmp .ge 44, 3) := by decide +kernel
theorem dX7_lamp_92 : decode cX7_lamp 92 = .ok (.iload 7, 2) := by decide +kernel
theorem dX7_lamp_94 : decode cX7_lamp 94 = .ok (.ifCond .eq 39, 3) := by decide +kernel
theorem dX7_lamp_97 : decode cX7_lamp 97 = .ok (.aload_n 0, 1) := by decide +kernel
theorem dX7_lamp_98 : decode cX7_lamp 98 = .ok (.getfield 7, 3) := by decide +kernel
theorem dX7_lamp_101 : decode cX7_lamp 101 = .ok (.iload 8, 2) := by decide +kernel
theorem dX7_lamp_103 : decode cX7_lamp 103 = .ok (.iaload, 1) := by decide +kernel
theorem dX7_lamp_104 : decode cX7_lamp 104 = .ok (.iload_n 1, 1) := by decide +kernel
theorem dX7_lamp_105 : decode cX7_lamp 105 = .ok (.if_icmp .ne 15, 3) := by decide +kernel
theorem dX7_lamp_108 : decode cX7_lamp 108 = .ok (.aload_n 0, 1) := by decide +kernel
theorem dX7_lamp_109 : decode cX7_lamp 109 = .ok (.getfield 13, 3) := by decide +kernel
theorem dX7_lamp_112 : decode cX7_lamp 112 = .ok (.iload 8, 2) := by decide +kernel
theorem dX7_lamp_114 : decode cX7_lamp 114 = .ok (.laload, 1) := by decide +kernel
theorem dX7_lamp_115 : decode cX7_lamp 115 = .ok (.lload_n 2, 1) := by decide +kernel
theorem dX7_lamp_116 : decode cX7_lamp 116 = .ok (.lcmp, 1) := by decide +kernel
theorem dX7_lamp_117 : decode cX7_lamp 117 = .ok (.ifCond .eq 7, 3) := by decide +kernel
theorem dX7_lamp_120 : decode cX7_lamp 120 = .ok (.iconst 1, 1) := by decide +kernel
theorem dX7_lamp_121 : decode cX7_lamp 121 = .ok (.goto 4, 3) := by decide +kernel
theorem dX7_lamp_124 : decode cX7_lamp 124 = .ok (.iconst 0, 1) := by decide +kernel
theorem dX7_lamp_125 : decode cX7_lamp 125 = .ok (.istore 7, 2) := by decide +kernel
theorem dX7_lamp_127 : decode cX7_lamp 127 = .ok (.iinc 8 1, 3) := by decide +kernel
theorem dX7_lamp_130 : decode cX7_lamp 130 = .ok (.goto (-47), 3) := by decide +kernel
theorem dX7_lamp_133 : decode cX7_lamp 133 = .ok (.aload_n 0, 1) := by decide +kernel
theorem dX7_lamp_134 : decode cX7_lamp 134 = .ok (.iload 7, 2) := by decide +kernel
theorem dX7_lamp_136 : decode cX7_lamp 136 = .ok (.ifCond .ne 7, 3) := by decide +kernel
theorem dX7_lamp_139 : decode cX7_lamp 139 = .ok (.iconst 1, 1) := by decide +kernel
theorem dX7_lamp_140 : decode cX7_lamp 140 = .ok (.goto 17, 3) := by decide +kernel
theorem dX7_lamp_143 : decode cX7_lamp 143 = .ok (.aload_n 0, 1) := by decide +kernel
theorem dX7_lamp_144 : decode cX7_lamp 144 = .ok (.getfield 113, 3) := by decide +kernel
theorem dX7_lamp_147 : decode cX7_lamp 147 = .ok (.bipush 24, 2) := by decide +kernel
theorem dX7_lamp_149 : decode cX7_lamp 149 = .ok (.if_icmp .ne 7, 3) := by decide +kernel
theorem dX7_lamp_152 : decode cX7_lamp 152 = .ok (.iconst 2, 1) := by decide +kernel
theorem dX7_lamp_153 : decode cX7_lamp 153 = .ok (.goto 4, 3) := by decide +kernel
theorem dX7_lamp_156 : decode cX7_lamp 156 = .ok (.iconst 0, 1) := by decide +kernel
theorem dX7_lamp_157 : decode cX7_lamp 157 = .ok (.putfield 91, 3) := by decide +kernel
theorem dX7_lamp_160 : decode cX7_lamp 160 = .ok (.aload_n 0, 1) := by decide +kernel
theorem dX7_lamp_161 : decode cX7_lamp 161 = .ok (.getfield 91, 3) := by decide +kernel
theorem dX7_lamp_164 : decode cX7_lamp 164 = .ok (.ifCond .le 5, 3) := by decide +kernel
theorem dX7_lamp_167 : decode cX7_lamp 167 = .ok (.iconst 0, 1) := by decide +kernel
theorem dX7_lamp_168 : decode cX7_lamp 168 = .ok (.ireturn, 1) := by decide +kernel
theorem dX7_lamp_169 : decode cX7_lamp 169 = .ok (.aload_n 0, 1) := by decide +kernel
theorem dX7_lamp_170 : decode cX7_lamp 170 = .ok (.getfield 7, 3) := by decide +kernel
theorem dX7_lamp_173 : decode cX7_lamp 173 = .ok (.aload_n 0, 1) := by decide +kernel
theorem dX7_lamp_174 : decode cX7_lamp 174 = .ok (.getfield 113, 3) := by decide +kernel
theorem dX7_lamp_177 : decode cX7_lamp 177 = .ok (.iload_n 1, 1) := by decide +kernel
theorem dX7_lamp_178 : decode cX7_lamp 178 = .ok (.iastore, 1) := by decide +kernel
theorem dX7_lamp_179 : decode cX7_lamp 179 = .ok (.aload_n 0, 1) := by decide +kernel
theorem dX7_lamp_180 : decode cX7_lamp 180 = .ok (.getfield 13, 3) := by decide +kernel
theorem dX7_lamp_183 : decode cX7_lamp 183 = .ok (.aload_n 0, 1) := by decide +kernel
theorem dX7_lamp_184 : decode cX7_lamp 184 = .ok (.getfield 113, 3) := by decide +kernel
theorem dX7_lamp_187 : decode cX7_lamp 187 = .ok (.lload_n 2, 1) := by decide +kernel
theorem dX7_lamp_188 : decode cX7_lamp 188 = .ok (.lastore, 1) := by decide +kernel
theorem dX7_lamp_189 : decode cX7_lamp 189 = .ok (.aload_n 0, 1) := by decide +kernel
theorem dX7_lamp_190 : decode cX7_lamp 190 = .ok (.getfield 17, 3) := by decide +kernel
theorem dX7_lamp_193 : decode cX7_lamp 193 = .ok (.aload_n 0, 1) := by decide +kernel
theorem dX7_lamp_194 : decode cX7_lamp 194 = .ok (.getfield 113, 3) := by decide +kernel
theorem dX7_lamp_197 : decode cX7_lamp 197 = .ok (.iload 4, 2) := by decide +kernel
theorem dX7_lamp_199 : decode cX7_lamp 199 = .ok (.iastore, 1) := by decide +kernel
theorem dX7_lamp_200 : decode cX7_lamp 200 = .ok (.aload_n 0, 1) := by decide +kernel
theorem dX7_lamp_201 : decode cX7_lamp 201 = .ok (.getfield 20, 3) := by decide +kernel
theorem dX7_lamp_204 : decode cX7_lamp 204 = .ok (.aload_n 0, 1) := by decide +kernel
theorem dX7_lamp_205 : decode cX7_lamp 205 = .ok (.getfield 113, 3) := by decide +kernel
theorem dX7_lamp_208 : decode cX7_lamp 208 = .ok (.iload 5, 2) := by decide +kernel
theorem dX7_lamp_210 : decode cX7_lamp 210 = .ok (.iastore, 1) := by decide +kernel
theorem dX7_lamp_211 : decode cX7_lamp 211 = .ok (.aload_n 0, 1) := by decide +kernel
theorem dX7_lamp_212 : decode cX7_lamp 212 = .ok (.getfield 23, 3) := by decide +kernel
theorem dX7_lamp_215 : decode cX7_lamp 215 = .ok (.aload_n 0, 1) := by decide +kernel
theorem dX7_lamp_216 : decode cX7_lamp 216 = .ok (.getfield 113, 3) := by decide +kernel
theorem dX7_lamp_219 : decode cX7_lamp 219 = .ok (.iconst 1, 1) := by decide +kernel
theorem dX7_lamp_220 : decode cX7_lamp 220 = .ok (.iastore, 1) := by decide +kernel
theorem dX7_lamp_221 : decode cX7_lamp 221 = .ok (.aload_n 0, 1) := by decide +kernel
theorem dX7_lamp_222 : decode cX7_lamp 222 = .ok (.getfield 26, 3) := by decide +kernel
theorem dX7_lamp_225 : decode cX7_lamp 225 = .ok (.aload_n 0, 1) := by decide +kernel
theorem dX7_lamp_226 : decode cX7_lamp 226 = .ok (.getfield 113, 3) := by decide +kernel
theorem dX7_lamp_229 : decode cX7_lamp 229 = .ok (.iload 6, 2) := by decide +kernel
theorem dX7_lamp_231 : decode cX7_lamp 231 = .ok (.iastore, 1) := by decide +kernel
theorem dX7_lamp_232 : decode cX7_lamp 232 = .ok (.aload_n 0, 1) := by decide +kernel
theorem dX7_lamp_233 : decode cX7_lamp 233 = .ok (.dup, 1) := by decide +kernel
theorem dX7_lamp_234 : decode cX7_lamp 234 = .ok (.getfield 113, 3) := by decide +kernel
theorem dX7_lamp_237 : decode cX7_lamp 237 = .ok (.iconst 1, 1) := by decide +kernel
theorem dX7_lamp_238 : decode cX7_lamp 238 = .ok (.iadd, 1) := by decide +kernel
theorem dX7_lamp_239 : decode cX7_lamp 239 = .ok (.putfield 113, 3) := by decide +kernel
theorem dX7_lamp_242 : decode cX7_lamp 242 = .ok (.aload_n 0, 1) := by decide +kernel
theorem dX7_lamp_243 : decode cX7_lamp 243 = .ok (.getfield 113, 3) := by decide +kernel
theorem dX7_lamp_246 : decode cX7_lamp 246 = .ok (.iconst 1, 1) := by decide +kernel
theorem dX7_lamp_247 : decode cX7_lamp 247 = .ok (.isub, 1) := by decide +kernel
theorem dX7_lamp_248 : decode cX7_lamp 248 = .ok (.ireturn, 1) := by decide +kernel
theorem dX7_feed_0 : decode cX7_feed 0 = .ok (.aload_n 0, 1) := by decide +kernel
theorem dX7_feed_1 : decode cX7_feed 1 = .ok (.aload_n 0, 1) := by decide +kernel
theorem dX7_feed_2 : decode cX7_feed 2 = .ok (.getfield 116, 3) := by decide +kernel
theorem dX7_feed_5 : decode cX7_feed 5 = .ok (.bipush 20, 2) := by decide +kernel
theorem dX7_feed_7 : decode cX7_feed 7 = .ok (.iadd, 1) := by decide +kernel
theorem dX7_feed_8 : decode cX7_feed 8 = .ok (.sipush 520, 3) := by decide +kernel
theorem dX7_feed_11 : decode cX7_feed 11 = .ok (.if_icmp .gt 7, 3) := by decide +kernel
theorem dX7_feed_14 : decode cX7_feed 14 = .ok (.iconst 1, 1) := by decide +kernel
theorem dX7_feed_15 : decode cX7_feed 15 = .ok (.goto 4, 3) := by decide +kernel
theorem dX7_feed_18 : decode cX7_feed 18 = .ok (.iconst 0, 1) := by decide +kernel
theorem dX7_feed_19 : decode cX7_feed 19 = .ok (.invokevirtual 119, 3) := by decide +kernel
theorem dX7_feed_22 : decode cX7_feed 22 = .ok (.ifCond .ne 5, 3) := by decide +kernel
theorem dX7_feed_25 : decode cX7_feed 25 = .ok (.iconst 0, 1) := by decide +kernel
theorem dX7_feed_26 : decode cX7_feed 26 = .ok (.ireturn, 1) := by decide +kernel
theorem dX7_feed_27 : decode cX7_feed 27 = .ok (.iconst 0, 1) := by decide +kernel
theorem dX7_feed_28 : decode cX7_feed 28 = .ok (.istore 6, 2) := by decide +kernel
theorem dX7_feed_30 : decode cX7_feed 30 = .ok (.iload 6, 2) := by decide +kernel
theorem dX7_feed_32 : decode cX7_feed 32 = .ok (.bipush 20, 2) := by decide +kernel
theorem dX7_feed_34 : decode cX7_feed 34 = .ok (.if_icmp .ge 90, 3) := by decide +kernel
theorem dX7_feed_37 : decode cX7_feed 37 = .ok (.iload 6, 2) := by decide +kernel
theorem dX7_feed_39 : decode cX7_feed 39 = .ok (.iconst 4, 1) := by decide +kernel
theorem dX7_feed_40 : decode cX7_feed 40 = .ok (.if_icmp .ge 7, 3) := by decide +kernel
theorem dX7_feed_43 : decode cX7_feed 43 = .ok (.iload_n 1, 1) := by decide +kernel
theorem dX7_feed_44 : decode cX7_feed 44 = .ok (.goto 39, 3) := by decide +kernel
theorem dX7_feed_47 : decode cX7_feed 47 = .ok (.iload 6, 2) := by decide +kernel
theorem dX7_feed_49 : decode cX7_feed 49 = .ok (.bipush 8, 2) := by decide +kernel
theorem dX7_feed_51 : decode cX7_feed 51 = .ok (.if_icmp .ge 7, 3) := by decide +kernel
theorem dX7_feed_54 : decode cX7_feed 54 = .ok (.iload_n 2, 1) := by decide +kernel
theorem dX7_feed_55 : decode cX7_feed 55 = .ok (.goto 28, 3) := by decide +kernel
theorem dX7_feed_58 : decode cX7_feed 58 = .ok (.iload 6, 2) := by decide +kernel
theorem dX7_feed_60 : decode cX7_feed 60 = .ok (.bipush 12, 2) := by decide +kernel
theorem dX7_feed_62 : decode cX7_feed 62 = .ok (.if_icmp .ge 7, 3) := by decide +kernel
theorem dX7_feed_65 : decode cX7_feed 65 = .ok (.iload_n 3, 1) := by decide +kernel
theorem dX7_feed_66 : decode cX7_feed 66 = .ok (.goto 17, 3) := by decide +kernel
theorem dX7_feed_69 : decode cX7_feed 69 = .ok (.iload 6, 2) := by decide +kernel
theorem dX7_feed_71 : decode cX7_feed 71 = .ok (.bipush 16, 2) := by decide +kernel
theorem dX7_feed_73 : decode cX7_feed 73 = .ok (.if_icmp .ge 8, 3) := by decide +kernel
theorem dX7_feed_76 : decode cX7_feed 76 = .ok (.iload 4, 2) := by decide +kernel
theorem dX7_feed_78 : decode cX7_feed 78 = .ok (.goto 5, 3) := by decide +kernel
theorem dX7_feed_81 : decode cX7_feed 81 = .ok (.iload 5, 2) := by decide +kernel
theorem dX7_feed_83 : decode cX7_feed 83 = .ok (.istore 7, 2) := by decide +kernel
theorem dX7_feed_85 : decode cX7_feed 85 = .ok (.aload_n 0, 1) := by decide +kernel
theorem dX7_feed_86 : decode cX7_feed 86 = .ok (.getfield 64, 3) := by decide +kernel
theorem dX7_feed_89 : decode cX7_feed 89 = .ok (.aload_n 0, 1) := by decide +kernel
theorem dX7_feed_90 : decode cX7_feed 90 = .ok (.getfield 116, 3) := by decide +kernel
theorem dX7_feed_93 : decode cX7_feed 93 = .ok (.iload 7, 2) := by decide +kernel
theorem dX7_feed_95 : decode cX7_feed 95 = .ok (.bipush 24, 2) := by decide +kernel
theorem dX7_feed_97 : decode cX7_feed 97 = .ok (.bipush 8, 2) := by decide +kernel
theorem dX7_feed_99 : decode cX7_feed 99 = .ok (.iload 6, 2) := by decide +kernel
theorem dX7_feed_101 : decode cX7_feed 101 = .ok (.iconst 4, 1) := by decide +kernel
theorem dX7_feed_102 : decode cX7_feed 102 = .ok (.irem, 1) := by decide +kernel
theorem dX7_feed_103 : decode cX7_feed 103 = .ok (.imul, 1) := by decide +kernel
theorem dX7_feed_104 : decode cX7_feed 104 = .ok (.isub, 1) := by decide +kernel
theorem dX7_feed_105 : decode cX7_feed 105 = .ok (.ishr, 1) := by decide +kernel
theorem dX7_feed_106 : decode cX7_feed 106 = .ok (.i2b, 1) := by decide +kernel
theorem dX7_feed_107 : decode cX7_feed 107 = .ok (.bastore, 1) := by decide +kernel
theorem dX7_feed_108 : decode cX7_feed 108 = .ok (.aload_n 0, 1) := by decide +kernel
theorem dX7_feed_109 : decode cX7_feed 109 = .ok (.dup, 1) := by decide +kernel
theorem dX7_feed_110 : decode cX7_feed 110 = .ok (.getfield 116, 3) := by decide +kernel
theorem dX7_feed_113 : decode cX7_feed 113 = .ok (.iconst 1, 1) := by decide +kernel
theorem dX7_feed_114 : decode cX7_feed 114 = .ok (.iadd, 1) := by decide +kernel
theorem dX7_feed_115 : decode cX7_feed 115 = .ok (.putfield 116, 3) := by decide +kernel
theorem dX7_feed_118 : decode cX7_feed 118 = .ok (.iinc 6 1, 3) := by decide +kernel
theorem dX7_feed_121 : decode cX7_feed 121 = .ok (.goto (-91), 3) := by decide +kernel
theorem dX7_feed_124 : decode cX7_feed 124 = .ok (.aload_n 0, 1) := by decide +kernel
theorem dX7_feed_125 : decode cX7_feed 125 = .ok (.getfield 116, 3) := by decide +kernel
theorem dX7_feed_128 : decode cX7_feed 128 = .ok (.ireturn, 1) := by decide +kernel
theorem dX7_end_0 : decode cX7_end 0 = .ok (.aload_n 0, 1) := by decide +kernel
theorem dX7_end_1 : decode cX7_end 1 = .ok (.aload_n 0, 1) := by decide +kernel
theorem dX7_end_2 : decode cX7_end 2 = .ok (.iload_n 1, 1) := by decide +kernel
theorem dX7_end_3 : decode cX7_end 3 = .ok (.i2l, 1) := by decide +kernel
theorem dX7_end_4 : decode cX7_end 4 = .ok (.lconst 0, 1) := by decide +kernel
theorem dX7_end_5 : decode cX7_end 5 = .ok (.aload_n 0, 1) := by decide +kernel
theorem dX7_end_6 : decode cX7_end 6 = .ok (.getfield 116, 3) := by decide +kernel
theorem dX7_end_9 : decode cX7_end 9 = .ok (.i2l, 1) := by decide +kernel
theorem dX7_end_10 : decode cX7_end 10 = .ok (.invokestatic 101, 3) := by decide +kernel
theorem dX7_end_13 : decode cX7_end 13 = .ok (.invokevirtual 119, 3) := by decide +kernel
theorem dX7_end_16 : decode cX7_end 16 = .ok (.ifCond .eq 7, 3) := by decide +kernel
theorem dX7_end_19 : decode cX7_end 19 = .ok (.iload_n 1, 1) := by decide +kernel
theorem dX7_end_20 : decode cX7_end 20 = .ok (.goto 7, 3) := by decide +kernel
theorem dX7_end_23 : decode cX7_end 23 = .ok (.aload_n 0, 1) := by decide +kernel
theorem dX7_end_24 : decode cX7_end 24 = .ok (.getfield 116, 3) := by decide +kernel
theorem dX7_end_27 : decode cX7_end 27 = .ok (.putfield 116, 3) := by decide +kernel
theorem dX7_end_30 : decode cX7_end 30 = .ok (.return_, 1) := by decide +kernel
theorem dX7_at_0 : decode cX7_at 0 = .ok (.aload_n 0, 1) := by decide +kernel
theorem dX7_at_1 : decode cX7_at 1 = .ok (.getfield 67, 3) := by decide +kernel
theorem dX7_at_4 : decode cX7_at 4 = .ok (.iload_n 1, 1) := by decide +kernel
theorem dX7_at_5 : decode cX7_at 5 = .ok (.baload, 1) := by decide +kernel
theorem dX7_at_6 : decode cX7_at 6 = .ok (.sipush 255, 3) := by decide +kernel
theorem dX7_at_9 : decode cX7_at 9 = .ok (.iand, 1) := by decide +kernel
theorem dX7_at_10 : decode cX7_at 10 = .ok (.ireturn, 1) := by decide +kernel
theorem dX7_two_0 : decode cX7_two 0 = .ok (.aload_n 0, 1) := by decide +kernel
theorem dX7_two_1 : decode cX7_two 1 = .ok (.iload_n 1, 1) := by decide +kernel
theorem dX7_two_2 : decode cX7_two 2 = .ok (.invokevirtual 123, 3) := by decide +kernel
theorem dX7_two_5 : decode cX7_two 5 = .ok (.sipush 256, 3) := by decide +kernel
theorem dX7_two_8 : decode cX7_two 8 = .ok (.imul, 1) := by decide +kernel
theorem dX7_two_9 : decode cX7_two 9 = .ok (.aload_n 0, 1) := by decide +kernel
theorem dX7_two_10 : decode cX7_two 10 = .ok (.iload_n 1, 1) := by decide +kernel
theorem dX7_two_11 : decode cX7_two 11 = .ok (.iconst 1, 1) := by decide +kernel
theorem dX7_two_12 : decode cX7_two 12 = .ok (.iadd, 1) := by decide +kernel
theorem dX7_two_13 : decode cX7_two 13 = .ok (.invokevirtual 123, 3) := by decide +kernel
theorem dX7_two_16 : decode cX7_two 16 = .ok (.iadd, 1) := by decide +kernel
theorem dX7_two_17 : decode cX7_two 17 = .ok (.ireturn, 1) := by decide +kernel
theorem dX7_six_0 : decode cX7_six 0 = .ok (.lconst 0, 1) := by decide +kernel
theorem dX7_six_1 : decode cX7_six 1 = .ok (.lstore_n 2, 1) := by decide +kernel
theorem dX7_six_2 : decode cX7_six 2 = .ok (.iconst 0, 1) := by decide +kernel
theorem dX7_six_3 : decode cX7_six 3 = .ok (.istore 4, 2) := by decide +kernel
theorem dX7_six_5 : decode cX7_six 5 = .ok (.iload 4, 2) := by decide +kernel
theorem dX7_six_7 : decode cX7_six 7 = .ok (.bipush 6, 2) := by decide +kernel
theorem dX7_six_9 : decode cX7_six 9 = .ok (.if_icmp .ge 25, 3) := by decide +kernel
theorem dX7_six_12 : decode cX7_six 12 = .ok (.lload_n 2, 1) := by decide +kernel
theorem dX7_six_13 : decode cX7_six 13 = .ok (.ldc2_w 127, 3) := by decide +kernel
theorem dX7_six_16 : decode cX7_six 16 = .ok (.lmul, 1) := by decide +kernel
theorem dX7_six_17 : decode cX7_six 17 = .ok (.aload_n 0, 1) := by decide +kernel
theorem dX7_six_18 : decode cX7_six 18 = .ok (.iload_n 1, 1) := by decide +kernel
theorem dX7_six_19 : decode cX7_six 19 = .ok (.iload 4, 2) := by decide +kernel
theorem dX7_six_21 : decode cX7_six 21 = .ok (.iadd, 1) := by decide +kernel
theorem dX7_six_22 : decode cX7_six 22 = .ok (.invokevirtual 123, 3) := by decide +kernel
theorem dX7_six_25 : decode cX7_six 25 = .ok (.i2l, 1) := by decide +kernel
theorem dX7_six_26 : decode cX7_six 26 = .ok (.ladd, 1) := by decide +kernel
theorem dX7_six_27 : decode cX7_six 27 = .ok (.lstore_n 2, 1) := by decide +kernel
theorem dX7_six_28 : decode cX7_six 28 = .ok (.iinc 4 1, 3) := by decide +kernel
theorem dX7_six_31 : decode cX7_six 31 = .ok (.goto (-26), 3) := by decide +kernel
theorem dX7_six_34 : decode cX7_six 34 = .ok (.lload_n 2, 1) := by decide +kernel
theorem dX7_six_35 : decode cX7_six 35 = .ok (.lreturn, 1) := by decide +kernel
theorem dX7_footprint_0 : decode cX7_footprint 0 = .ok (.aload_n 0, 1) := by decide +kernel
theorem dX7_footprint_1 : decode cX7_footprint 1 = .ok (.getfield 17, 3) := by decide +kernel
theorem dX7_footprint_4 : decode cX7_footprint 4 = .ok (.iload_n 1, 1) := by decide +kernel
theorem dX7_footprint_5 : decode cX7_footprint 5 = .ok (.iaload, 1) := by decide +kernel
theorem dX7_footprint_6 : decode cX7_footprint 6 = .ok (.aload_n 0, 1) := by decide +kernel
theorem dX7_footprint_7 : decode cX7_footprint 7 = .ok (.getfield 23, 3) := by decide +kernel
theorem dX7_footprint_10 : decode cX7_footprint 10 = .ok (.iload_n 1, 1) := by decide +kernel
theorem dX7_footprint_11 : decode cX7_footprint 11 = .ok (.iaload, 1) := by decide +kernel
theorem dX7_footprint_12 : decode cX7_footprint 12 = .ok (.imul, 1) := by decide +kernel
theorem dX7_footprint_13 : decode cX7_footprint 13 = .ok (.ireturn, 1) := by decide +kernel
theorem dX7_doDue_0 : decode cX7_doDue 0 = .ok (.iconst 0, 1) := by decide +kernel
theorem dX7_doDue_1 : decode cX7_doDue 1 = .ok (.istore_n 1, 1) := by decide +kernel
theorem dX7_doDue_2 : decode cX7_doDue 2 = .ok (.iload_n 1, 1) := by decide +kernel
theorem dX7_doDue_3 : decode cX7_doDue 3 = .ok (.aload_n 0, 1) := by decide +kernel
theorem dX7_doDue_4 : decode cX7_doDue 4 = .ok (.getfield 113, 3) := by decide +kernel
theorem dX7_doDue_7 : decode cX7_doDue 7 = .ok (.if_icmp .ge 109, 3) := by decide +kernel
theorem dX7_doDue_10 : decode cX7_doDue 10 = .ok (.iconst 0, 1) := by decide +kernel
theorem dX7_doDue_11 : decode cX7_doDue 11 = .ok (.istore_n 2, 1) := by decide +kernel
theorem dX7_doDue_12 : decode cX7_doDue 12 = .ok (.iload_n 2, 1) := by decide +kernel
theorem dX7_doDue_13 : decode cX7_doDue 13 = .ok (.aload_n 0, 1) := by decide +kernel
theorem dX7_doDue_14 : decode cX7_doDue 14 = .ok (.getfield 52, 3) := by decide +kernel
theorem dX7_doDue_17 : decode cX7_doDue 17 = .ok (.iload_n 1, 1) := by decide +kernel
theorem dX7_doDue_18 : decode cX7_doDue 18 = .ok (.iaload, 1) := by decide +kernel
theorem dX7_doDue_19 : decode cX7_doDue 19 = .ok (.if_icmp .ge 91, 3) := by decide +kernel
theorem dX7_doDue_22 : decode cX7_doDue 22 = .ok (.iconst 4, 1) := by decide +kernel
theorem dX7_doDue_23 : decode cX7_doDue 23 = .ok (.iload_n 1, 1) := by decide +kernel
theorem dX7_doDue_24 : decode cX7_doDue 24 = .ok (.imul, 1) := by decide +kernel
theorem dX7_doDue_25 : decode cX7_doDue 25 = .ok (.iload_n 2, 1) := by decide +kernel
theorem dX7_doDue_26 : decode cX7_doDue 26 = .ok (.iadd, 1) := by decide +kernel
theorem dX7_doDue_27 : decode cX7_doDue 27 = .ok (.istore_n 3, 1) := by decide +kernel
theorem dX7_doDue_28 : decode cX7_doDue 28 = .ok (.aload_n 0, 1) := by decide +kernel
theorem dX7_doDue_29 : decode cX7_doDue 29 = .ok (.getfield 55, 3) := by decide +kernel
theorem dX7_doDue_32 : decode cX7_doDue 32 = .ok (.iload_n 3, 1) := by decide +kernel
theorem dX7_doDue_33 : decode cX7_doDue 33 = .ok (.iaload, 1) := by decide +kernel
theorem dX7_doDue_34 : decode cX7_doDue 34 = .ok (.aload_n 0, 1) := by decide +kernel
theorem dX7_doDue_35 : decode cX7_doDue 35 = .ok (.getfield 129, 3) := by decide +kernel
theorem dX7_doDue_38 : decode cX7_doDue 38 = .ok (.if_icmp .ne 66, 3) := by decide +kernel
theorem dX7_doDue_41 : decode cX7_doDue 41 = .ok (.aload_n 0, 1) := by decide +kernel
theorem dX7_doDue_42 : decode cX7_doDue 42 = .ok (.getfield 55, 3) := by decide +kernel
theorem dX7_doDue_45 : decode cX7_doDue 45 = .ok (.iload_n 3, 1) := by decide +kernel
theorem dX7_doDue_46 : decode cX7_doDue 46 = .ok (.iconst 0, 1) := by decide +kernel
theorem dX7_doDue_47 : decode cX7_doDue 47 = .ok (.iastore, 1) := by decide +kernel
theorem dX7_doDue_48 : decode cX7_doDue 48 = .ok (.aload_n 0, 1) := by decide +kernel
theorem dX7_doDue_49 : decode cX7_doDue 49 = .ok (.getfield 36, 3) := by decide +kernel
theorem dX7_doDue_52 : decode cX7_doDue 52 = .ok (.iload_n 1, 1) := by decide +kernel
theorem dX7_doDue_53 : decode cX7_doDue 53 = .ok (.aload_n 0, 1) := by decide +kernel
theorem dX7_doDue_54 : decode cX7_doDue 54 = .ok (.getfield 58, 3) := by decide +kernel
theorem dX7_doDue_57 : decode cX7_doDue 57 = .ok (.iload_n 3, 1) := by decide +kernel
theorem dX7_doDue_58 : decode cX7_doDue 58 = .ok (.iaload, 1) := by decide +kernel
theorem dX7_doDue_59 : decode cX7_doDue 59 = .ok (.iastore, 1) := by decide +kernel
theorem dX7_doDue_60 : decode cX7_doDue 60 = .ok (.iconst 0, 1) := by decide +kernel
theorem dX7_doDue_61 : decode cX7_doDue 61 = .ok (.istore 4, 2) := by decide +kernel
theorem dX7_doDue_63 : decode cX7_doDue 63 = .ok (.iload 4, 2) := by decide +kernel
theorem dX7_doDue_65 : decode cX7_doDue 65 = .ok (.aload_n 0, 1) := by decide +kernel
theorem dX7_doDue_66 : decode cX7_doDue 66 = .ok (.getfield 58, 3) := by decide +kernel
theorem dX7_doDue_69 : decode cX7_doDue 69 = .ok (.iload_n 3, 1) := by decide +kernel
theorem dX7_doDue_70 : decode cX7_doDue 70 = .ok (.iaload, 1) := by decide +kernel
theorem dX7_doDue_71 : decode cX7_doDue 71 = .ok (.if_icmp .ge 33, 3) := by decide +kernel
theorem dX7_doDue_74 : decode cX7_doDue 74 = .ok (.aload_n 0, 1) := by decide +kernel
theorem dX7_doDue_75 : decode cX7_doDue 75 = .ok (.getfield 39, 3) := by decide +kernel
theorem dX7_doDue_78 : decode cX7_doDue 78 = .ok (.bipush 32, 2) := by decide +kernel
theorem dX7_doDue_80 : decode cX7_doDue 80 = .ok (.iload_n 1, 1) := by decide +kernel
theorem dX7_doDue_81 : decode cX7_doDue 81 = .ok (.imul, 1) := by decide +kernel
theorem dX7_doDue_82 : decode cX7_doDue 82 = .ok (.iload 4, 2) := by decide +kernel
theorem dX7_doDue_84 : decode cX7_doDue 84 = .ok (.iadd, 1) := by decide +kernel
theorem dX7_doDue_85 : decode cX7_doDue 85 = .ok (.aload_n 0, 1) := by decide +kernel
theorem dX7_doDue_86 : decode cX7_doDue 86 = .ok (.getfield 61, 3) := by decide +kernel
theorem dX7_doDue_89 : decode cX7_doDue 89 = .ok (.bipush 32, 2) := by decide +kernel
theorem dX7_doDue_91 : decode cX7_doDue 91 = .ok (.iload_n 3, 1) := by decide +kernel
theorem dX7_doDue_92 : decode cX7_doDue 92 = .ok (.imul, 1) := by decide +kernel
theorem dX7_doDue_93 : decode cX7_doDue 93 = .ok (.iload 4, 2) := by decide +kernel
theorem dX7_doDue_95 : decode cX7_doDue 95 = .ok (.iadd, 1) := by decide +kernel
theorem dX7_doDue_96 : decode cX7_doDue 96 = .ok (.baload, 1) := by decide +kernel
theorem dX7_doDue_97 : decode cX7_doDue 97 = .ok (.bastore, 1) := by decide +kernel
theorem dX7_doDue_98 : decode cX7_doDue 98 = .ok (.iinc 4 1, 3) := by decide +kernel
theorem dX7_doDue_101 : decode cX7_doDue 101 = .ok (.goto (-38), 3) := by decide +kernel
theorem dX7_doDue_104 : decode cX7_doDue 104 = .ok (.iinc 2 1, 3) := by decide +kernel
theorem dX7_doDue_107 : decode cX7_doDue 107 = .ok (.goto (-95), 3) := by decide +kernel
theorem dX7_doDue_110 : decode cX7_doDue 110 = .ok (.iinc 1 1, 3) := by decide +kernel
theorem dX7_doDue_113 : decode cX7_doDue 113 = .ok (.goto (-111), 3) := by decide +kernel
theorem dX7_doDue_116 : decode cX7_doDue 116 = .ok (.return_, 1) := by decide +kernel
theorem dX7_waiting_0 : decode cX7_waiting 0 = .ok (.iconst 0, 1) := by decide +kernel
theorem dX7_waiting_1 : decode cX7_waiting 1 = .ok (.istore_n 2, 1) := by decide +kernel
theorem dX7_waiting_2 : decode cX7_waiting 2 = .ok (.iconst 0, 1) := by decide +kernel
theorem dX7_waiting_3 : decode cX7_waiting 3 = .ok (.istore_n 3, 1) := by decide +kernel
theorem dX7_waiting_4 : decode cX7_waiting 4 = .ok (.iload_n 3, 1) := by decide +kernel
theorem dX7_waiting_5 : decode cX7_waiting 5 = .ok (.aload_n 0, 1) := by decide +kernel
theorem dX7_waiting_6 : decode cX7_waiting 6 = .ok (.getfield 52, 3) := by decide +kernel
theorem dX7_waiting_9 : decode cX7_waiting 9 = .ok (.iload_n 1, 1) := by decide +kernel
theorem dX7_waiting_10 : decode cX7_waiting 10 = .ok (.iaload, 1) := by decide +kernel
theorem dX7_waiting_11 : decode cX7_waiting 11 = .ok (.if_icmp .ge 30, 3) := by decide +kernel
theorem dX7_waiting_14 : decode cX7_waiting 14 = .ok (.aload_n 0, 1) := by decide +kernel
theorem dX7_waiting_15 : decode cX7_waiting 15 = .ok (.getfield 55, 3) := by decide +kernel
theorem dX7_waiting_18 : decode cX7_waiting 18 = .ok (.iconst 4, 1) := by decide +kernel
theorem dX7_waiting_19 : decode cX7_waiting 19 = .ok (.iload_n 1, 1) := by decide +kernel
theorem dX7_waiting_20 : decode cX7_waiting 20 = .ok (.imul, 1) := by decide +kernel
theorem dX7_waiting_21 : decode cX7_waiting 21 = .ok (.iload_n 3, 1) := by decide +kernel
theorem dX7_waiting_22 : decode cX7_waiting 22 = .ok (.iadd, 1) := by decide +kernel
theorem dX7_waiting_23 : decode cX7_waiting 23 = .ok (.iaload, 1) := by decide +kernel
theorem dX7_waiting_24 : decode cX7_waiting 24 = .ok (.ifCond .ne 9, 3) := by decide +kernel
theorem dX7_waiting_27 : decode cX7_waiting 27 = .ok (.iload_n 2, 1) := by decide +kernel
theorem dX7_waiting_28 : decode cX7_waiting 28 = .ok (.iconst 1, 1) := by decide +kernel
theorem dX7_waiting_29 : decode cX7_waiting 29 = .ok (.iadd, 1) := by decide +kernel
theorem dX7_waiting_30 : decode cX7_waiting 30 = .ok (.goto 4, 3) := by decide +kernel
theorem dX7_waiting_33 : decode cX7_waiting 33 = .ok (.iload_n 2, 1) := by decide +kernel
theorem dX7_waiting_34 : decode cX7_waiting 34 = .ok (.istore_n 2, 1) := by decide +kernel
theorem dX7_waiting_35 : decode cX7_waiting 35 = .ok (.iinc 3 1, 3) := by decide +kernel
theorem dX7_waiting_38 : decode cX7_waiting 38 = .ok (.goto (-34), 3) := by decide +kernel
theorem dX7_waiting_41 : decode cX7_waiting 41 = .ok (.iload_n 2, 1) := by decide +kernel
theorem dX7_waiting_42 : decode cX7_waiting 42 = .ok (.ireturn, 1) := by decide +kernel
theorem dX7_look_0 : decode cX7_look 0 = .ok (.aload_n 0, 1) := by decide +kernel
theorem dX7_look_1 : decode cX7_look 1 = .ok (.dup, 1) := by decide +kernel
theorem dX7_look_2 : decode cX7_look 2 = .ok (.getfield 129, 3) := by decide +kernel
theorem dX7_look_5 : decode cX7_look 5 = .ok (.iconst 1, 1) := by decide +kernel
theorem dX7_look_6 : decode cX7_look 6 = .ok (.iadd, 1) := by decide +kernel
theorem dX7_look_7 : decode cX7_look 7 = .ok (.putfield 129, 3) := by decide +kernel
theorem dX7_look_10 : decode cX7_look 10 = .ok (.aload_n 0, 1) := by decide +kernel
theorem dX7_look_11 : decode cX7_look 11 = .ok (.invokevirtual 132, 3) := by decide +kernel
theorem dX7_look_14 : decode cX7_look 14 = .ok (.aload_n 0, 1) := by decide +kernel
theorem dX7_look_15 : decode cX7_look 15 = .ok (.iconst 0, 1) := by decide +kernel
theorem dX7_look_16 : decode cX7_look 16 = .ok (.putfield 135, 3) := by decide +kernel
theorem dX7_look_19 : decode cX7_look 19 = .ok (.aload_n 0, 1) := by decide +kernel
theorem dX7_look_20 : decode cX7_look 20 = .ok (.getfield 138, 3) := by decide +kernel
theorem dX7_look_23 : decode cX7_look 23 = .ok (.ifCond .le 35, 3) := by decide +kernel
theorem dX7_look_26 : decode cX7_look 26 = .ok (.aload_n 0, 1) := by decide +kernel
theorem dX7_look_27 : decode cX7_look 27 = .ok (.iconst 0, 1) := by decide +kernel
theorem dX7_look_28 : decode cX7_look 28 = .ok (.invokevirtual 123, 3) := by decide +kernel
theorem dX7_look_31 : decode cX7_look 31 = .ok (.ifCond .ne 27, 3) := by decide +kernel
theorem dX7_look_34 : decode cX7_look 34 = .ok (.iconst 0, 1) := by decide +kernel
theorem dX7_look_35 : decode cX7_look 35 = .ok (.istore_n 1, 1) := by decide +kernel
theorem dX7_look_36 : decode cX7_look 36 = .ok (.iload_n 1, 1) := by decide +kernel
theorem dX7_look_37 : decode cX7_look 37 = .ok (.aload_n 0, 1) := by decide +kernel
theorem dX7_look_38 : decode cX7_look 38 = .ok (.getfield 113, 3) := by decide +kernel
theorem dX7_look_41 : decode cX7_look 41 = .ok (.if_icmp .ge 14, 3) := by decide +kernel
theorem dX7_look_44 : decode cX7_look 44 = .ok (.aload_n 0, 1) := by decide +kernel
theorem dX7_look_45 : decode cX7_look 45 = .ok (.iload_n 1, 1) := by decide +kernel
theorem dX7_look_46 : decode cX7_look 46 = .ok (.invokevirtual 141, 3) := by decide +kernel
theorem dX7_look_49 : decode cX7_look 49 = .ok (.iinc 1 1, 3) := by decide +kernel
theorem dX7_look_52 : decode cX7_look 52 = .ok (.goto (-16), 3) := by decide +kernel
theorem dX7_look_55 : decode cX7_look 55 = .ok (.goto 120, 3) := by decide +kernel
theorem dX7_look_58 : decode cX7_look 58 = .ok (.aload_n 0, 1) := by decide +kernel
theorem dX7_look_59 : decode cX7_look 59 = .ok (.invokevirtual 145, 3) := by decide +kernel
theorem dX7_look_62 : decode cX7_look 62 = .ok (.ifCond .eq 113, 3) := by decide +kernel
theorem dX7_look_65 : decode cX7_look 65 = .ok (.aload_n 0, 1) := by decide +kernel
theorem dX7_look_66 : decode cX7_look 66 = .ok (.iconst 3, 1) := by decide +kernel
theorem dX7_look_67 : decode cX7_look 67 = .ok (.invokevirtual 149, 3) := by decide +kernel
theorem dX7_look_70 : decode cX7_look 70 = .ok (.lstore_n 1, 1) := by decide +kernel
theorem dX7_look_71 : decode cX7_look 71 = .ok (.iconst 0, 1) := by decide +kernel
theorem dX7_look_72 : decode cX7_look 72 = .ok (.istore_n 3, 1) := by decide +kernel
theorem dX7_look_73 : decode cX7_look 73 = .ok (.iload_n 3, 1) := by decide +kernel
theorem dX7_look_74 : decode cX7_look 74 = .ok (.aload_n 0, 1) := by decide +kernel
theorem dX7_look_75 : decode cX7_look 75 = .ok (.getfield 113, 3) := by decide +kernel
theorem dX7_look_78 : decode cX7_look 78 = .ok (.if_icmp .ge 97, 3) := by decide +kernel
theorem dX7_look_81 : decode cX7_look 81 = .ok (.lload_n 1, 1) := by decide +kernel
theorem dX7_look_82 : decode cX7_look 82 = .ok (.aload_n 0, 1) := by decide +kernel
theorem dX7_look_83 : decode cX7_look 83 = .ok (.iload_n 3, 1) := by decide +kernel
theorem dX7_look_84 : decode cX7_look 84 = .ok (.invokevirtual 153, 3) := by decide +kernel
theorem dX7_look_87 : decode cX7_look 87 = .ok (.lcmp, 1) := by decide +kernel
theorem dX7_look_88 : decode cX7_look 88 = .ok (.ifCond .ne 7, 3) := by decide +kernel
theorem dX7_look_91 : decode cX7_look 91 = .ok (.iconst 1, 1) := by decide +kernel
theorem dX7_look_92 : decode cX7_look 92 = .ok (.goto 4, 3) := by decide +kernel
theorem dX7_look_95 : decode cX7_look 95 = .ok (.iconst 0, 1) := by decide +kernel
theorem dX7_look_96 : decode cX7_look 96 = .ok (.istore 4, 2) := by decide +kernel
theorem dX7_look_98 : decode cX7_look 98 = .ok (.lload_n 1, 1) := by decide +kernel
theorem dX7_look_99 : decode cX7_look 99 = .ok (.ldc2_w 156, 3) := by decide +kernel
theorem dX7_look_102 : decode cX7_look 102 = .ok (.land, 1) := by decide +kernel
theorem dX7_look_103 : decode cX7_look 103 = .ok (.ldc2_w 156, 3) := by decide +kernel
theorem dX7_look_106 : decode cX7_look 106 = .ok (.lcmp, 1) := by decide +kernel
theorem dX7_look_107 : decode cX7_look 107 = .ok (.ifCond .ne 33, 3) := by decide +kernel
theorem dX7_look_110 : decode cX7_look 110 = .ok (.lload_n 1, 1) := by decide +kernel
theorem dX7_look_111 : decode cX7_look 111 = .ok (.bipush 32, 2) := by decide +kernel
theorem dX7_look_113 : decode cX7_look 113 = .ok (.lshr, 1) := by decide +kernel
theorem dX7_look_114 : decode cX7_look 114 = .ok (.ldc2_w 158, 3) := by decide +kernel
theorem dX7_look_117 : decode cX7_look 117 = .ok (.lcmp, 1) := by decide +kernel
theorem dX7_look_118 : decode cX7_look 118 = .ok (.ifCond .eq 18, 3) := by decide +kernel
theorem dX7_look_121 : decode cX7_look 121 = .ok (.lload_n 1, 1) := by decide +kernel
theorem dX7_look_122 : decode cX7_look 122 = .ok (.bipush 32, 2) := by decide +kernel
theorem dX7_look_124 : decode cX7_look 124 = .ok (.lshr, 1) := by decide +kernel
theorem dX7_look_125 : decode cX7_look 125 = .ok (.aload_n 0, 1) := by decide +kernel
theorem dX7_look_126 : decode cX7_look 126 = .ok (.getfield 7, 3) := by decide +kernel
theorem dX7_look_129 : decode cX7_look 129 = .ok (.iload_n 3, 1) := by decide +kernel
theorem dX7_look_130 : decode cX7_look 130 = .ok (.iaload, 1) := by decide +kernel
theorem dX7_look_131 : decode cX7_look 131 = .ok (.i2l, 1) := by decide +kernel
theorem dX7_look_132 : decode cX7_look 132 = .ok (.lcmp, 1) := by decide +kernel
theorem dX7_look_133 : decode cX7_look 133 = .ok (.ifCond .ne 7, 3) := by decide +kernel
theorem dX7_look_136 : decode cX7_look 136 = .ok (.iconst 1, 1) := by decide +kernel
theorem dX7_look_137 : decode cX7_look 137 = .ok (.goto 4, 3) := by decide +kernel
theorem dX7_look_140 : decode cX7_look 140 = .ok (.iconst 0, 1) := by decide +kernel
theorem dX7_look_141 : decode cX7_look 141 = .ok (.istore 5, 2) := by decide +kernel
theorem dX7_look_143 : decode cX7_look 143 = .ok (.iload 4, 2) := by decide +kernel
theorem dX7_look_145 : decode cX7_look 145 = .ok (.ifCond .ne 8, 3) := by decide +kernel
theorem dX7_look_148 : decode cX7_look 148 = .ok (.iload 5, 2) := by decide +kernel
theorem dX7_look_150 : decode cX7_look 150 = .ok (.ifCond .eq 19, 3) := by decide +kernel
theorem dX7_look_153 : decode cX7_look 153 = .ok (.aload_n 0, 1) := by decide +kernel
theorem dX7_look_154 : decode cX7_look 154 = .ok (.iconst 0, 1) := by decide +kernel
theorem dX7_look_155 : decode cX7_look 155 = .ok (.putfield 160, 3) := by decide +kernel
theorem dX7_look_158 : decode cX7_look 158 = .ok (.aload_n 0, 1) := by decide +kernel
theorem dX7_look_159 : decode cX7_look 159 = .ok (.iload_n 3, 1) := by decide +kernel
theorem dX7_look_160 : decode cX7_look 160 = .ok (.iload 4, 2) := by decide +kernel
theorem dX7_look_162 : decode cX7_look 162 = .ok (.invokevirtual 163, 3) := by decide +kernel
theorem dX7_look_165 : decode cX7_look 165 = .ok (.aload_n 0, 1) := by decide +kernel
theorem dX7_look_166 : decode cX7_look 166 = .ok (.invokevirtual 167, 3) := by decide +kernel
theorem dX7_look_169 : decode cX7_look 169 = .ok (.iinc 3 1, 3) := by decide +kernel
theorem dX7_look_172 : decode cX7_look 172 = .ok (.goto (-99), 3) := by decide +kernel
theorem dX7_look_175 : decode cX7_look 175 = .ok (.aload_n 0, 1) := by decide +kernel
theorem dX7_look_176 : decode cX7_look 176 = .ok (.getfield 135, 3) := by decide +kernel
theorem dX7_look_179 : decode cX7_look 179 = .ok (.ifCond .le 67, 3) := by decide +kernel
theorem dX7_look_182 : decode cX7_look 182 = .ok (.iconst 0, 1) := by decide +kernel
theorem dX7_look_183 : decode cX7_look 183 = .ok (.istore_n 1, 1) := by decide +kernel
theorem dX7_look_184 : decode cX7_look 184 = .ok (.iload_n 1, 1) := by decide +kernel
theorem dX7_look_185 : decode cX7_look 185 = .ok (.aload_n 0, 1) := by decide +kernel
theorem dX7_look_186 : decode cX7_look 186 = .ok (.getfield 170, 3) := by decide +kernel
theorem dX7_look_189 : decode cX7_look 189 = .ok (.if_icmp .ge 52, 3) := by decide +kernel
theorem dX7_look_192 : decode cX7_look 192 = .ok (.aload_n 0, 1) := by decide +kernel
theorem dX7_look_193 : decode cX7_look 193 = .ok (.getfield 76, 3) := by decide +kernel
theorem dX7_look_196 : decode cX7_look 196 = .ok (.iload_n 1, 1) := by decide +kernel
theorem dX7_look_197 : decode cX7_look 197 = .ok (.iaload, 1) := by decide +kernel
theorem dX7_look_198 : decode cX7_look 198 = .ok (.aload_n 0, 1) := by decide +kernel
theorem dX7_look_199 : decode cX7_look 199 = .ok (.getfield 135, 3) := by decide +kernel
theorem dX7_look_202 : decode cX7_look 202 = .ok (.if_icmp .ge 33, 3) := by decide +kernel
theorem dX7_look_205 : decode cX7_look 205 = .ok (.aload_n 0, 1) := by decide +kernel
theorem dX7_look_206 : decode cX7_look 206 = .ok (.getfield 70, 3) := by decide +kernel
theorem dX7_look_209 : decode cX7_look 209 = .ok (.aload_n 0, 1) := by decide +kernel
theorem dX7_look_210 : decode cX7_look 210 = .ok (.getfield 76, 3) := by decide +kernel
theorem dX7_look_213 : decode cX7_look 213 = .ok (.iload_n 1, 1) := by decide +kernel
theorem dX7_look_214 : decode cX7_look 214 = .ok (.iaload, 1) := by decide +kernel
theorem dX7_look_215 : decode cX7_look 215 = .ok (.aload_n 0, 1) := by decide +kernel
theorem dX7_look_216 : decode cX7_look 216 = .ok (.getfield 70, 3) := by decide +kernel
theorem dX7_look_219 : decode cX7_look 219 = .ok (.aload_n 0, 1) := by decide +kernel
theorem dX7_look_220 : decode cX7_look 220 = .ok (.getfield 76, 3) := by decide +kernel
theorem dX7_look_223 : decode cX7_look 223 = .ok (.iload_n 1, 1) := by decide +kernel
theorem dX7_look_224 : decode cX7_look 224 = .ok (.iaload, 1) := by decide +kernel
theorem dX7_look_225 : decode cX7_look 225 = .ok (.baload, 1) := by decide +kernel
theorem dX7_look_226 : decode cX7_look 226 = .ok (.aload_n 0, 1) := by decide +kernel
theorem dX7_look_227 : decode cX7_look 227 = .ok (.getfield 79, 3) := by decide +kernel
theorem dX7_look_230 : decode cX7_look 230 = .ok (.iload_n 1, 1) := by decide +kernel
theorem dX7_look_231 : decode cX7_look 231 = .ok (.iaload, 1) := by decide +kernel
theorem dX7_look_232 : decode cX7_look 232 = .ok (.ixor, 1) := by decide +kernel
theorem dX7_look_233 : decode cX7_look 233 = .ok (.i2b, 1) := by decide +kernel
theorem dX7_look_234 : decode cX7_look 234 = .ok (.bastore, 1) := by decide +kernel
theorem dX7_look_235 : decode cX7_look 235 = .ok (.iinc 1 1, 3) := by decide +kernel
theorem dX7_look_238 : decode cX7_look 238 = .ok (.goto (-54), 3) := by decide +kernel
theorem dX7_look_241 : decode cX7_look 241 = .ok (.aload_n 0, 1) := by decide +kernel
theorem dX7_look_242 : decode cX7_look 242 = .ok (.iconst 0, 1) := by decide +kernel
theorem dX7_look_243 : decode cX7_look 243 = .ok (.putfield 170, 3) := by decide +kernel
theorem dX7_look_246 : decode cX7_look 246 = .ok (.return_, 1) := by decide +kernel
theorem dX7_takeLevels_0 : decode cX7_takeLevels 0 = .ok (.iconst 0, 1) := by decide +kernel
theorem dX7_takeLevels_1 : decode cX7_takeLevels 1 = .ok (.istore_n 2, 1) := by decide +kernel
theorem dX7_takeLevels_2 : decode cX7_takeLevels 2 = .ok (.iload_n 2, 1) := by decide +kernel
theorem dX7_takeLevels_3 : decode cX7_takeLevels 3 = .ok (.aload_n 0, 1) := by decide +kernel
theorem dX7_takeLevels_4 : decode cX7_takeLevels 4 = .ok (.iload_n 1, 1) := by decide +kernel
theorem dX7_takeLevels_5 : decode cX7_takeLevels 5 = .ok (.invokevirtual 173, 3) := by decide +kernel
theorem dX7_takeLevels_8 : decode cX7_takeLevels 8 = .ok (.if_icmp .ge 48, 3) := by decide +kernel
theorem dX7_takeLevels_11 : decode cX7_takeLevels 11 = .ok (.aload_n 0, 1) := by decide +kernel
theorem dX7_takeLevels_12 : decode cX7_takeLevels 12 = .ok (.getfield 26, 3) := by decide +kernel
theorem dX7_takeLevels_15 : decode cX7_takeLevels 15 = .ok (.iload_n 1, 1) := by decide +kernel
theorem dX7_takeLevels_16 : decode cX7_takeLevels 16 = .ok (.iaload, 1) := by decide +kernel
theorem dX7_takeLevels_17 : decode cX7_takeLevels 17 = .ok (.iload_n 2, 1) := by decide +kernel
theorem dX7_takeLevels_18 : decode cX7_takeLevels 18 = .ok (.iadd, 1) := by decide +kernel
theorem dX7_takeLevels_19 : decode cX7_takeLevels 19 = .ok (.aload_n 0, 1) := by decide +kernel
theorem dX7_takeLevels_20 : decode cX7_takeLevels 20 = .ok (.getfield 138, 3) := by decide +kernel
theorem dX7_takeLevels_23 : decode cX7_takeLevels 23 = .ok (.if_icmp .ge 27, 3) := by decide +kernel
theorem dX7_takeLevels_26 : decode cX7_takeLevels 26 = .ok (.aload_n 0, 1) := by decide +kernel
theorem dX7_takeLevels_27 : decode cX7_takeLevels 27 = .ok (.getfield 46, 3) := by decide +kernel
theorem dX7_takeLevels_30 : decode cX7_takeLevels 30 = .ok (.sipush 512, 3) := by decide +kernel
theorem dX7_takeLevels_33 : decode cX7_takeLevels 33 = .ok (.iload_n 1, 1) := by decide +kernel
theorem dX7_takeLevels_34 : decode cX7_takeLevels 34 = .ok (.imul, 1) := by decide +kernel
theorem dX7_takeLevels_35 : decode cX7_takeLevels 35 = .ok (.iload_n 2, 1) := by decide +kernel
theorem dX7_takeLevels_36 : decode cX7_takeLevels 36 = .ok (.iadd, 1) := by decide +kernel
theorem dX7_takeLevels_37 : decode cX7_takeLevels 37 = .ok (.aload_n 0, 1) := by decide +kernel
theorem dX7_takeLevels_38 : decode cX7_takeLevels 38 = .ok (.aload_n 0, 1) := by decide +kernel
theorem dX7_takeLevels_39 : decode cX7_takeLevels 39 = .ok (.getfield 26, 3) := by decide +kernel
theorem dX7_takeLevels_42 : decode cX7_takeLevels 42 = .ok (.iload_n 1, 1) := by decide +kernel
theorem dX7_takeLevels_43 : decode cX7_takeLevels 43 = .ok (.iaload, 1) := by decide +kernel
theorem dX7_takeLevels_44 : decode cX7_takeLevels 44 = .ok (.iload_n 2, 1) := by decide +kernel
theorem dX7_takeLevels_45 : decode cX7_takeLevels 45 = .ok (.iadd, 1) := by decide +kernel
theorem dX7_takeLevels_46 : decode cX7_takeLevels 46 = .ok (.invokevirtual 123, 3) := by decide +kernel
theorem dX7_takeLevels_49 : decode cX7_takeLevels 49 = .ok (.iastore, 1) := by decide +kernel
theorem dX7_takeLevels_50 : decode cX7_takeLevels 50 = .ok (.iinc 2 1, 3) := by decide +kernel
theorem dX7_takeLevels_53 : decode cX7_takeLevels 53 = .ok (.goto (-51), 3) := by decide +kernel
theorem dX7_takeLevels_56 : decode cX7_takeLevels 56 = .ok (.aload_n 0, 1) := by decide +kernel
theorem dX7_takeLevels_57 : decode cX7_takeLevels 57 = .ok (.getfield 26, 3) := by decide +kernel
theorem dX7_takeLevels_60 : decode cX7_takeLevels 60 = .ok (.iload_n 1, 1) := by decide +kernel
theorem dX7_takeLevels_61 : decode cX7_takeLevels 61 = .ok (.iaload, 1) := by decide +kernel
theorem dX7_takeLevels_62 : decode cX7_takeLevels 62 = .ok (.aload_n 0, 1) := by decide +kernel
theorem dX7_takeLevels_63 : decode cX7_takeLevels 63 = .ok (.getfield 138, 3) := by decide +kernel
theorem dX7_takeLevels_66 : decode cX7_takeLevels 66 = .ok (.if_icmp .ge 13, 3) := by decide +kernel
theorem dX7_takeLevels_69 : decode cX7_takeLevels 69 = .ok (.aload_n 0, 1) := by decide +kernel
theorem dX7_takeLevels_70 : decode cX7_takeLevels 70 = .ok (.getfield 49, 3) := by decide +kernel
theorem dX7_takeLevels_73 : decode cX7_takeLevels 73 = .ok (.iload_n 1, 1) := by decide +kernel
theorem dX7_takeLevels_74 : decode cX7_takeLevels 74 = .ok (.aload_n 0, 1) := by decide +kernel
theorem dX7_takeLevels_75 : decode cX7_takeLevels 75 = .ok (.getfield 129, 3) := by decide +kernel
theorem dX7_takeLevels_78 : decode cX7_takeLevels 78 = .ok (.iastore, 1) := by decide +kernel
theorem dX7_takeLevels_79 : decode cX7_takeLevels 79 = .ok (.return_, 1) := by decide +kernel
theorem dX7_isPacket_0 : decode cX7_isPacket 0 = .ok (.aload_n 0, 1) := by decide +kernel
theorem dX7_isPacket_1 : decode cX7_isPacket 1 = .ok (.getfield 138, 3) := by decide +kernel
theorem dX7_isPacket_4 : decode cX7_isPacket 4 = .ok (.bipush 26, 2) := by decide +kernel
theorem dX7_isPacket_6 : decode cX7_isPacket 6 = .ok (.if_icmp .lt 64, 3) := by decide +kernel
theorem dX7_isPacket_9 : decode cX7_isPacket 9 = .ok (.aload_n 0, 1) := by decide +kernel
theorem dX7_isPacket_10 : decode cX7_isPacket 10 = .ok (.iconst 0, 1) := by decide +kernel
theorem dX7_isPacket_11 : decode cX7_isPacket 11 = .ok (.invokevirtual 123, 3) := by decide +kernel
theorem dX7_isPacket_14 : decode cX7_isPacket 14 = .ok (.sipush 204, 3) := by decide +kernel
theorem dX7_isPacket_17 : decode cX7_isPacket 17 = .ok (.if_icmp .ne 53, 3) := by decide +kernel
theorem dX7_isPacket_20 : decode cX7_isPacket 20 = .ok (.aload_n 0, 1) := by decide +kernel
theorem dX7_isPacket_21 : decode cX7_isPacket 21 = .ok (.iconst 1, 1) := by decide +kernel
theorem dX7_isPacket_22 : decode cX7_isPacket 22 = .ok (.invokevirtual 123, 3) := by decide +kernel
theorem dX7_isPacket_25 : decode cX7_isPacket 25 = .ok (.iconst 1, 1) := by decide +kernel
theorem dX7_isPacket_26 : decode cX7_isPacket 26 = .ok (.if_icmp .ne 44, 3) := by decide +kernel
theorem dX7_isPacket_29 : decode cX7_isPacket 29 = .ok (.aload_n 0, 1) := by decide +kernel
theorem dX7_isPacket_30 : decode cX7_isPacket 30 = .ok (.iconst 2, 1) := by decide +kernel
theorem dX7_isPacket_31 : decode cX7_isPacket 31 = .ok (.invokevirtual 123, 3) := by decide +kernel
theorem dX7_isPacket_34 : decode cX7_isPacket 34 = .ok (.bipush 24, 2) := by decide +kernel
theorem dX7_isPacket_36 : decode cX7_isPacket 36 = .ok (.if_icmp .lt 34, 3) := by decide +kernel
theorem dX7_isPacket_39 : decode cX7_isPacket 39 = .ok (.aload_n 0, 1) := by decide +kernel
theorem dX7_isPacket_40 : decode cX7_isPacket 40 = .ok (.getfield 138, 3) := by decide +kernel
theorem dX7_isPacket_43 : decode cX7_isPacket 43 = .ok (.aload_n 0, 1) := by decide +kernel
theorem dX7_isPacket_44 : decode cX7_isPacket 44 = .ok (.iconst 2, 1) := by decide +kernel
theorem dX7_isPacket_45 : decode cX7_isPacket 45 = .ok (.invokevirtual 123, 3) := by decide +kernel
theorem dX7_isPacket_48 : decode cX7_isPacket 48 = .ok (.iconst 2, 1) := by decide +kernel
theorem dX7_isPacket_49 : decode cX7_isPacket 49 = .ok (.iadd, 1) := by decide +kernel
theorem dX7_isPacket_50 : decode cX7_isPacket 50 = .ok (.if_icmp .ne 20, 3) := by decide +kernel
theorem dX7_isPacket_53 : decode cX7_isPacket 53 = .ok (.aload_n 0, 1) := by decide +kernel
theorem dX7_isPacket_54 : decode cX7_isPacket 54 = .ok (.bipush 23, 2) := by decide +kernel
theorem dX7_isPacket_56 : decode cX7_isPacket 56 = .ok (.invokevirtual 123, 3) := by decide +kernel
theorem dX7_isPacket_59 : decode cX7_isPacket 59 = .ok (.aload_n 0, 1) := by decide +kernel
theorem dX7_isPacket_60 : decode cX7_isPacket 60 = .ok (.iconst 2, 1) := by decide +kernel
theorem dX7_isPacket_61 : decode cX7_isPacket 61 = .ok (.invokevirtual 123, 3) := by decide +kernel
theorem dX7_isPacket_64 : decode cX7_isPacket 64 = .ok (.bipush 24, 2) := by decide +kernel
theorem dX7_isPacket_66 : decode cX7_isPacket 66 = .ok (.isub, 1) := by decide +kernel
theorem dX7_isPacket_67 : decode cX7_isPacket 67 = .ok (.if_icmp .eq 5, 3) := by decide +kernel
theorem dX7_isPacket_70 : decode cX7_isPacket 70 = .ok (.iconst 0, 1) := by decide +kernel
theorem dX7_isPacket_71 : decode cX7_isPacket 71 = .ok (.ireturn, 1) := by decide +kernel
theorem dX7_isPacket_72 : decode cX7_isPacket 72 = .ok (.iconst 0, 1) := by decide +kernel
theorem dX7_isPacket_73 : decode cX7_isPacket 73 = .ok (.istore_n 1, 1) := by decide +kernel
theorem dX7_isPacket_74 : decode cX7_isPacket 74 = .ok (.iconst 0, 1) := by decide +kernel
theorem dX7_isPacket_75 : decode cX7_isPacket 75 = .ok (.istore_n 2, 1) := by decide +kernel
theorem dX7_isPacket_76 : decode cX7_isPacket 76 = .ok (.iload_n 2, 1) := by decide +kernel
theorem dX7_isPacket_77 : decode cX7_isPacket 77 = .ok (.aload_n 0, 1) := by decide +kernel
theorem dX7_isPacket_78 : decode cX7_isPacket 78 = .ok (.iconst 2, 1) := by decide +kernel
theorem dX7_isPacket_79 : decode cX7_isPacket 79 = .ok (.invokevirtual 123, 3) := by decide +kernel
theorem dX7_isPacket_82 : decode cX7_isPacket 82 = .ok (.if_icmp .ge 17, 3) := by decide +kernel
theorem dX7_isPacket_85 : decode cX7_isPacket 85 = .ok (.iload_n 1, 1) := by decide +kernel
theorem dX7_isPacket_86 : decode cX7_isPacket 86 = .ok (.aload_n 0, 1) := by decide +kernel
theorem dX7_isPacket_87 : decode cX7_isPacket 87 = .ok (.iload_n 2, 1) := by decide +kernel
theorem dX7_isPacket_88 : decode cX7_isPacket 88 = .ok (.invokevirtual 123, 3) := by decide +kernel
theorem dX7_isPacket_91 : decode cX7_isPacket 91 = .ok (.iadd, 1) := by decide +kernel
theorem dX7_isPacket_92 : decode cX7_isPacket 92 = .ok (.istore_n 1, 1) := by decide +kernel
theorem dX7_isPacket_93 : decode cX7_isPacket 93 = .ok (.iinc 2 1, 3) := by decide +kernel
theorem dX7_isPacket_96 : decode cX7_isPacket 96 = .ok (.goto (-20), 3) := by decide +kernel
theorem dX7_isPacket_99 : decode cX7_isPacket 99 = .ok (.iload_n 1, 1) := by decide +kernel
theorem dX7_isPacket_100 : decode cX7_isPacket 100 = .ok (.ldc 176, 2) := by decide +kernel
theorem dX7_isPacket_102 : decode cX7_isPacket 102 = .ok (.irem, 1) := by decide +kernel
theorem dX7_isPacket_103 : decode cX7_isPacket 103 = .ok (.aload_n 0, 1) := by decide +kernel
theorem dX7_isPacket_104 : decode cX7_isPacket 104 = .ok (.aload_n 0, 1) := by decide +kernel
theorem dX7_isPacket_105 : decode cX7_isPacket 105 = .ok (.iconst 2, 1) := by decide +kernel
theorem dX7_isPacket_106 : decode cX7_isPacket 106 = .ok (.invokevirtual 123, 3) := by decide +kernel
theorem dX7_isPacket_109 : decode cX7_isPacket 109 = .ok (.invokevirtual 177, 3) := by decide +kernel
theorem dX7_isPacket_112 : decode cX7_isPacket 112 = .ok (.if_icmp .ne 7, 3) := by decide +kernel
theorem dX7_isPacket_115 : decode cX7_isPacket 115 = .ok (.iconst 1, 1) := by decide +kernel
theorem dX7_isPacket_116 : decode cX7_isPacket 116 = .ok (.goto 4, 3) := by decide +kernel
theorem dX7_isPacket_119 : decode cX7_isPacket 119 = .ok (.iconst 0, 1) := by decide +kernel
theorem dX7_isPacket_120 : decode cX7_isPacket 120 = .ok (.ireturn, 1) := by decide +kernel
theorem dX7_fall_0 : decode cX7_fall 0 = .ok (.iconst 0, 1) := by decide +kernel
theorem dX7_fall_1 : decode cX7_fall 1 = .ok (.istore_n 1, 1) := by decide +kernel
theorem dX7_fall_2 : decode cX7_fall 2 = .ok (.iload_n 1, 1) := by decide +kernel
theorem dX7_fall_3 : decode cX7_fall 3 = .ok (.aload_n 0, 1) := by decide +kernel
theorem dX7_fall_4 : decode cX7_fall 4 = .ok (.getfield 160, 3) := by decide +kernel
theorem dX7_fall_7 : decode cX7_fall 7 = .ok (.if_icmp .ge 44, 3) := by decide +kernel
theorem dX7_fall_10 : decode cX7_fall 10 = .ok (.iload_n 1, 1) := by decide +kernel
theorem dX7_fall_11 : decode cX7_fall 11 = .ok (.aload_n 0, 1) := by decide +kernel
theorem dX7_fall_12 : decode cX7_fall 12 = .ok (.getfield 135, 3) := by decide +kernel
theorem dX7_fall_15 : decode cX7_fall 15 = .ok (.if_icmp .lt 10, 3) := by decide +kernel
theorem dX7_fall_18 : decode cX7_fall 18 = .ok (.aload_n 0, 1) := by decide +kernel
theorem dX7_fall_19 : decode cX7_fall 19 = .ok (.getfield 70, 3) := by decide +kernel
theorem dX7_fall_22 : decode cX7_fall 22 = .ok (.iload_n 1, 1) := by decide +kernel
theorem dX7_fall_23 : decode cX7_fall 23 = .ok (.iconst 0, 1) := by decide +kernel
theorem dX7_fall_24 : decode cX7_fall 24 = .ok (.bastore, 1) := by decide +kernel
theorem dX7_fall_25 : decode cX7_fall 25 = .ok (.aload_n 0, 1) := by decide +kernel
theorem dX7_fall_26 : decode cX7_fall 26 = .ok (.getfield 70, 3) := by decide +kernel
theorem dX7_fall_29 : decode cX7_fall 29 = .ok (.iload_n 1, 1) := by decide +kernel
theorem dX7_fall_30 : decode cX7_fall 30 = .ok (.aload_n 0, 1) := by decide +kernel
theorem dX7_fall_31 : decode cX7_fall 31 = .ok (.getfield 70, 3) := by decide +kernel
theorem dX7_fall_34 : decode cX7_fall 34 = .ok (.iload_n 1, 1) := by decide +kernel
theorem dX7_fall_35 : decode cX7_fall 35 = .ok (.baload, 1) := by decide +kernel
theorem dX7_fall_36 : decode cX7_fall 36 = .ok (.aload_n 0, 1) := by decide +kernel
theorem dX7_fall_37 : decode cX7_fall 37 = .ok (.getfield 73, 3) := by decide +kernel
theorem dX7_fall_40 : decode cX7_fall 40 = .ok (.iload_n 1, 1) := by decide +kernel
theorem dX7_fall_41 : decode cX7_fall 41 = .ok (.baload, 1) := by decide +kernel
theorem dX7_fall_42 : decode cX7_fall 42 = .ok (.ior, 1) := by decide +kernel
theorem dX7_fall_43 : decode cX7_fall 43 = .ok (.i2b, 1) := by decide +kernel
theorem dX7_fall_44 : decode cX7_fall 44 = .ok (.bastore, 1) := by decide +kernel
theorem dX7_fall_45 : decode cX7_fall 45 = .ok (.iinc 1 1, 3) := by decide +kernel
theorem dX7_fall_48 : decode cX7_fall 48 = .ok (.goto (-46), 3) := by decide +kernel
theorem dX7_fall_51 : decode cX7_fall 51 = .ok (.aload_n 0, 1) := by decide +kernel
theorem dX7_fall_52 : decode cX7_fall 52 = .ok (.aload_n 0, 1) := by decide +kernel
theorem dX7_fall_53 : decode cX7_fall 53 = .ok (.getfield 160, 3) := by decide +kernel
theorem dX7_fall_56 : decode cX7_fall 56 = .ok (.aload_n 0, 1) := by decide +kernel
theorem dX7_fall_57 : decode cX7_fall 57 = .ok (.getfield 135, 3) := by decide +kernel
theorem dX7_fall_60 : decode cX7_fall 60 = .ok (.if_icmp .le 10, 3) := by decide +kernel
theorem dX7_fall_63 : decode cX7_fall 63 = .ok (.aload_n 0, 1) := by decide +kernel
theorem dX7_fall_64 : decode cX7_fall 64 = .ok (.getfield 160, 3) := by decide +kernel
theorem dX7_fall_67 : decode cX7_fall 67 = .ok (.goto 7, 3) := by decide +kernel
theorem dX7_fall_70 : decode cX7_fall 70 = .ok (.aload_n 0, 1) := by decide +kernel
theorem dX7_fall_71 : decode cX7_fall 71 = .ok (.getfield 135, 3) := by decide +kernel
theorem dX7_fall_74 : decode cX7_fall 74 = .ok (.putfield 135, 3) := by decide +kernel
theorem dX7_fall_77 : decode cX7_fall 77 = .ok (.return_, 1) := by decide +kernel
theorem dX7_put_0 : decode cX7_put 0 = .ok (.aload_n 0, 1) := by decide +kernel
theorem dX7_put_1 : decode cX7_put 1 = .ok (.getfield 73, 3) := by decide +kernel
theorem dX7_put_4 : decode cX7_put 4 = .ok (.aload_n 0, 1) := by decide +kernel
theorem dX7_put_5 : decode cX7_put 5 = .ok (.getfield 160, 3) := by decide +kernel
theorem dX7_put_8 : decode cX7_put 8 = .ok (.iload_n 1, 1) := by decide +kernel
theorem dX7_put_9 : decode cX7_put 9 = .ok (.i2b, 1) := by decide +kernel
theorem dX7_put_10 : decode cX7_put 10 = .ok (.bastore, 1) := by decide +kernel
theorem dX7_put_11 : decode cX7_put 11 = .ok (.aload_n 0, 1) := by decide +kernel
theorem dX7_put_12 : decode cX7_put 12 = .ok (.dup, 1) := by decide +kernel
theorem dX7_put_13 : decode cX7_put 13 = .ok (.getfield 160, 3) := by decide +kernel
theorem dX7_put_16 : decode cX7_put 16 = .ok (.iconst 1, 1) := by decide +kernel
theorem dX7_put_17 : decode cX7_put 17 = .ok (.iadd, 1) := by decide +kernel
theorem dX7_put_18 : decode cX7_put 18 = .ok (.putfield 160, 3) := by decide +kernel
theorem dX7_put_21 : decode cX7_put 21 = .ok (.return_, 1) := by decide +kernel
theorem dX7_putTwo_0 : decode cX7_putTwo 0 = .ok (.aload_n 0, 1) := by decide +kernel
theorem dX7_putTwo_1 : decode cX7_putTwo 1 = .ok (.iload_n 1, 1) := by decide +kernel
theorem dX7_putTwo_2 : decode cX7_putTwo 2 = .ok (.bipush 8, 2) := by decide +kernel
theorem dX7_putTwo_4 : decode cX7_putTwo 4 = .ok (.ishr, 1) := by decide +kernel
theorem dX7_putTwo_5 : decode cX7_putTwo 5 = .ok (.invokevirtual 180, 3) := by decide +kernel
theorem dX7_putTwo_8 : decode cX7_putTwo 8 = .ok (.aload_n 0, 1) := by decide +kernel
theorem dX7_putTwo_9 : decode cX7_putTwo 9 = .ok (.iload_n 1, 1) := by decide +kernel
theorem dX7_putTwo_10 : decode cX7_putTwo 10 = .ok (.invokevirtual 180, 3) := by decide +kernel
theorem dX7_putTwo_13 : decode cX7_putTwo 13 = .ok (.return_, 1) := by decide +kernel
theorem dX7_putId_0 : decode cX7_putId 0 = .ok (.bipush 40, 2) := by decide +kernel
theorem dX7_putId_2 : decode cX7_putId 2 = .ok (.istore_n 3, 1) := by decide +kernel
theorem dX7_putId_3 : decode cX7_putId 3 = .ok (.iload_n 3, 1) := by decide +kernel
theorem dX7_putId_4 : decode cX7_putId 4 = .ok (.ifCond .lt 17, 3) := by decide +kernel
theorem dX7_putId_7 : decode cX7_putId 7 = .ok (.aload_n 0, 1) := by decide +kernel
theorem dX7_putId_8 : decode cX7_putId 8 = .ok (.lload_n 1, 1) := by decide +kernel
theorem dX7_putId_9 : decode cX7_putId 9 = .ok (.iload_n 3, 1) := by decide +kernel
theorem dX7_putId_10 : decode cX7_putId 10 = .ok (.lshr, 1) := by decide +kernel
theorem dX7_putId_11 : decode cX7_putId 11 = .ok (.l2i, 1) := by decide +kernel
theorem dX7_putId_12 : decode cX7_putId 12 = .ok (.invokevirtual 180, 3) := by decide +kernel
theorem dX7_putId_15 : decode cX7_putId 15 = .ok (.iinc 3 (-8), 3) := by decide +kernel
theorem dX7_putId_18 : decode cX7_putId 18 = .ok (.goto (-15), 3) := by decide +kernel
theorem dX7_putId_21 : decode cX7_putId 21 = .ok (.return_, 1) := by decide +kernel
theorem dX7_begin_0 : decode cX7_begin 0 = .ok (.aload_n 0, 1) := by decide +kernel
theorem dX7_begin_1 : decode cX7_begin 1 = .ok (.iconst 0, 1) := by decide +kernel
theorem dX7_begin_2 : decode cX7_begin 2 = .ok (.putfield 160, 3) := by decide +kernel
theorem dX7_begin_5 : decode cX7_begin 5 = .ok (.aload_n 0, 1) := by decide +kernel
theorem dX7_begin_6 : decode cX7_begin 6 = .ok (.sipush 204, 3) := by decide +kernel
theorem dX7_begin_9 : decode cX7_begin 9 = .ok (.invokevirtual 180, 3) := by decide +kernel
theorem dX7_begin_12 : decode cX7_begin 12 = .ok (.aload_n 0, 1) := by decide +kernel
theorem dX7_begin_13 : decode cX7_begin 13 = .ok (.iconst 1, 1) := by decide +kernel
theorem dX7_begin_14 : decode cX7_begin 14 = .ok (.invokevirtual 180, 3) := by decide +kernel
theorem dX7_begin_17 : decode cX7_begin 17 = .ok (.aload_n 0, 1) := by decide +kernel
theorem dX7_begin_18 : decode cX7_begin 18 = .ok (.iconst 0, 1) := by decide +kernel
theorem dX7_begin_19 : decode cX7_begin 19 = .ok (.invokevirtual 180, 3) := by decide +kernel
theorem dX7_begin_22 : decode cX7_begin 22 = .ok (.bipush 9, 2) := by decide +kernel
theorem dX7_begin_24 : decode cX7_begin 24 = .ok (.istore 5, 2) := by decide +kernel
theorem dX7_begin_26 : decode cX7_begin 26 = .ok (.iload 5, 2) := by decide +kernel
theorem dX7_begin_28 : decode cX7_begin 28 = .ok (.bipush 15, 2) := by decide +kernel
theorem dX7_begin_30 : decode cX7_begin 30 = .ok (.if_icmp .ge 19, 3) := by decide +kernel
theorem dX7_begin_33 : decode cX7_begin 33 = .ok (.aload_n 0, 1) := by decide +kernel
theorem dX7_begin_34 : decode cX7_begin 34 = .ok (.aload_n 0, 1) := by decide +kernel
theorem dX7_begin_35 : decode cX7_begin 35 = .ok (.iload 5, 2) := by decide +kernel
theorem dX7_begin_37 : decode cX7_begin 37 = .ok (.invokevirtual 123, 3) := by decide +kernel
theorem dX7_begin_40 : decode cX7_begin 40 = .ok (.invokevirtual 180, 3) := by decide +kernel
theorem dX7_begin_43 : decode cX7_begin 43 = .ok (.iinc 5 1, 3) := by decide +kernel
theorem dX7_begin_46 : decode cX7_begin 46 = .ok (.goto (-20), 3) := by decide +kernel
theorem dX7_begin_49 : decode cX7_begin 49 = .ok (.aload_n 0, 1) := by decide +kernel
theorem dX7_begin_50 : decode cX7_begin 50 = .ok (.aload_n 0, 1) := by decide +kernel
theorem dX7_begin_51 : decode cX7_begin 51 = .ok (.iload_n 1, 1) := by decide +kernel
theorem dX7_begin_52 : decode cX7_begin 52 = .ok (.invokevirtual 153, 3) := by decide +kernel
theorem dX7_begin_55 : decode cX7_begin 55 = .ok (.invokevirtual 183, 3) := by decide +kernel
theorem dX7_begin_58 : decode cX7_begin 58 = .ok (.aload_n 0, 1) := by decide +kernel
theorem dX7_begin_59 : decode cX7_begin 59 = .ok (.aload_n 0, 1) := by decide +kernel
theorem dX7_begin_60 : decode cX7_begin 60 = .ok (.bipush 15, 2) := by decide +kernel
theorem dX7_begin_62 : decode cX7_begin 62 = .ok (.invokevirtual 123, 3) := by decide +kernel
theorem dX7_begin_65 : decode cX7_begin 65 = .ok (.invokevirtual 180, 3) := by decide +kernel
theorem dX7_begin_68 : decode cX7_begin 68 = .ok (.aload_n 0, 1) := by decide +kernel
theorem dX7_begin_69 : decode cX7_begin 69 = .ok (.iload_n 2, 1) := by decide +kernel
theorem dX7_begin_70 : decode cX7_begin 70 = .ok (.invokevirtual 180, 3) := by decide +kernel
theorem dX7_begin_73 : decode cX7_begin 73 = .ok (.aload_n 0, 1) := by decide +kernel
theorem dX7_begin_74 : decode cX7_begin 74 = .ok (.iconst 0, 1) := by decide +kernel
theorem dX7_begin_75 : decode cX7_begin 75 = .ok (.invokevirtual 180, 3) := by decide +kernel
theorem dX7_begin_78 : decode cX7_begin 78 = .ok (.aload_n 0, 1) := by decide +kernel
theorem dX7_begin_79 : decode cX7_begin 79 = .ok (.aload_n 0, 1) := by decide +kernel
theorem dX7_begin_80 : decode cX7_begin 80 = .ok (.bipush 18, 2) := by decide +kernel
theorem dX7_begin_82 : decode cX7_begin 82 = .ok (.invokevirtual 177, 3) := by decide +kernel
theorem dX7_begin_85 : decode cX7_begin 85 = .ok (.invokevirtual 187, 3) := by decide +kernel
theorem dX7_begin_88 : decode cX7_begin 88 = .ok (.aload_n 0, 1) := by decide +kernel
theorem dX7_begin_89 : decode cX7_begin 89 = .ok (.iload_n 3, 1) := by decide +kernel
theorem dX7_begin_90 : decode cX7_begin 90 = .ok (.invokevirtual 180, 3) := by decide +kernel
theorem dX7_begin_93 : decode cX7_begin 93 = .ok (.aload_n 0, 1) := by decide +kernel
theorem dX7_begin_94 : decode cX7_begin 94 = .ok (.iload 4, 2) := by decide +kernel
theorem dX7_begin_96 : decode cX7_begin 96 = .ok (.invokevirtual 187, 3) := by decide +kernel
theorem dX7_begin_99 : decode cX7_begin 99 = .ok (.aload_n 0, 1) := by decide +kernel
theorem dX7_begin_100 : decode cX7_begin 100 = .ok (.iconst 0, 1) := by decide +kernel
theorem dX7_begin_101 : decode cX7_begin 101 = .ok (.invokevirtual 180, 3) := by decide +kernel
theorem dX7_begin_104 : decode cX7_begin 104 = .ok (.return_, 1) := by decide +kernel
theorem dX7_finish_0 : decode cX7_finish 0 = .ok (.aload_n 0, 1) := by decide +kernel
theorem dX7_finish_1 : decode cX7_finish 1 = .ok (.getfield 73, 3) := by decide +kernel
theorem dX7_finish_4 : decode cX7_finish 4 = .ok (.bipush 17, 2) := by decide +kernel
theorem dX7_finish_6 : decode cX7_finish 6 = .ok (.aload_n 0, 1) := by decide +kernel
theorem dX7_finish_7 : decode cX7_finish 7 = .ok (.iload_n 1, 1) := by decide +kernel
theorem dX7_finish_8 : decode cX7_finish 8 = .ok (.invokevirtual 190, 3) := by decide +kernel
theorem dX7_finish_11 : decode cX7_finish 11 = .ok (.i2b, 1) := by decide +kernel
theorem dX7_finish_12 : decode cX7_finish 12 = .ok (.bastore, 1) := by decide +kernel
theorem dX7_finish_13 : decode cX7_finish 13 = .ok (.aload_n 0, 1) := by decide +kernel
theorem dX7_finish_14 : decode cX7_finish 14 = .ok (.getfield 73, 3) := by decide +kernel
theorem dX7_finish_17 : decode cX7_finish 17 = .ok (.iconst 2, 1) := by decide +kernel
theorem dX7_finish_18 : decode cX7_finish 18 = .ok (.aload_n 0, 1) := by decide +kernel
theorem dX7_finish_19 : decode cX7_finish 19 = .ok (.getfield 160, 3) := by decide +kernel
theorem dX7_finish_22 : decode cX7_finish 22 = .ok (.i2b, 1) := by decide +kernel
theorem dX7_finish_23 : decode cX7_finish 23 = .ok (.bastore, 1) := by decide +kernel
theorem dX7_finish_24 : decode cX7_finish 24 = .ok (.aload_n 0, 1) := by decide +kernel
theorem dX7_finish_25 : decode cX7_finish 25 = .ok (.getfield 73, 3) := by decide +kernel
theorem dX7_finish_28 : decode cX7_finish 28 = .ok (.bipush 23, 2) := by decide +kernel
theorem dX7_finish_30 : decode cX7_finish 30 = .ok (.aload_n 0, 1) := by decide +kernel
theorem dX7_finish_31 : decode cX7_finish 31 = .ok (.getfield 160, 3) := by decide +kernel
theorem dX7_finish_34 : decode cX7_finish 34 = .ok (.bipush 24, 2) := by decide +kernel
theorem dX7_finish_36 : decode cX7_finish 36 = .ok (.isub, 1) := by decide +kernel
theorem dX7_finish_37 : decode cX7_finish 37 = .ok (.i2b, 1) := by decide +kernel
theorem dX7_finish_38 : decode cX7_finish 38 = .ok (.bastore, 1) := by decide +kernel
theorem dX7_finish_39 : decode cX7_finish 39 = .ok (.iconst 0, 1) := by decide +kernel
theorem dX7_finish_40 : decode cX7_finish 40 = .ok (.istore_n 2, 1) := by decide +kernel
theorem dX7_finish_41 : decode cX7_finish 41 = .ok (.iconst 0, 1) := by decide +kernel
theorem dX7_finish_42 : decode cX7_finish 42 = .ok (.istore_n 3, 1) := by decide +kernel
theorem dX7_finish_43 : decode cX7_finish 43 = .ok (.iload_n 3, 1) := by decide +kernel
theorem dX7_finish_44 : decode cX7_finish 44 = .ok (.aload_n 0, 1) := by decide +kernel
theorem dX7_finish_45 : decode cX7_finish 45 = .ok (.getfield 160, 3) := by decide +kernel
theorem dX7_finish_48 : decode cX7_finish 48 = .ok (.if_icmp .ge 22, 3) := by decide +kernel
theorem dX7_finish_51 : decode cX7_finish 51 = .ok (.iload_n 2, 1) := by decide +kernel
theorem dX7_finish_52 : decode cX7_finish 52 = .ok (.aload_n 0, 1) := by decide +kernel
theorem dX7_finish_53 : decode cX7_finish 53 = .ok (.getfield 73, 3) := by decide +kernel
theorem dX7_finish_56 : decode cX7_finish 56 = .ok (.iload_n 3, 1) := by decide +kernel
theorem dX7_finish_57 : decode cX7_finish 57 = .ok (.baload, 1) := by decide +kernel
theorem dX7_finish_58 : decode cX7_finish 58 = .ok (.sipush 255, 3) := by decide +kernel
theorem dX7_finish_61 : decode cX7_finish 61 = .ok (.iand, 1) := by decide +kernel
theorem dX7_finish_62 : decode cX7_finish 62 = .ok (.iadd, 1) := by decide +kernel
theorem dX7_finish_63 : decode cX7_finish 63 = .ok (.istore_n 2, 1) := by decide +kernel
theorem dX7_finish_64 : decode cX7_finish 64 = .ok (.iinc 3 1, 3) := by decide +kernel
theorem dX7_finish_67 : decode cX7_finish 67 = .ok (.goto (-24), 3) := by decide +kernel
theorem dX7_finish_70 : decode cX7_finish 70 = .ok (.aload_n 0, 1) := by decide +kernel
theorem dX7_finish_71 : decode cX7_finish 71 = .ok (.iload_n 2, 1) := by decide +kernel
theorem dX7_finish_72 : decode cX7_finish 72 = .ok (.invokevirtual 187, 3) := by decide +kernel
theorem dX7_finish_75 : decode cX7_finish 75 = .ok (.return_, 1) := by decide +kernel
theorem dX7_hear_0 : decode cX7_hear 0 = .ok (.aload_n 0, 1) := by decide +kernel
theorem dX7_hear_1 : decode cX7_hear 1 = .ok (.bipush 20, 2) := by decide +kernel
theorem dX7_hear_3 : decode cX7_hear 3 = .ok (.invokevirtual 123, 3) := by decide +kernel
theorem dX7_hear_6 : decode cX7_hear 6 = .ok (.lookupswitch 101 #[(16, 34), (32, 43), (48, 65)], 34) := by decide +kernel
theorem dX7_hear_40 : decode cX7_hear 40 = .ok (.aload_n 0, 1) := by decide +kernel
theorem dX7_hear_41 : decode cX7_hear 41 = .ok (.iload_n 1, 1) := by decide +kernel
theorem dX7_hear_42 : decode cX7_hear 42 = .ok (.iload_n 2, 1) := by decide +kernel
theorem dX7_hear_43 : decode cX7_hear 43 = .ok (.invokevirtual 193, 3) := by decide +kernel
theorem dX7_hear_46 : decode cX7_hear 46 = .ok (.goto 61, 3) := by decide +kernel
theorem dX7_hear_49 : decode cX7_hear 49 = .ok (.iload_n 2, 1) := by decide +kernel
theorem dX7_hear_50 : decode cX7_hear 50 = .ok (.ifCond .eq 57, 3) := by decide +kernel
theorem dX7_hear_53 : decode cX7_hear 53 = .ok (.aload_n 0, 1) := by decide +kernel
theorem dX7_hear_54 : decode cX7_hear 54 = .ok (.getfield 43, 3) := by decide +kernel
theorem dX7_hear_57 : decode cX7_hear 57 = .ok (.iload_n 1, 1) := by decide +kernel
theorem dX7_hear_58 : decode cX7_hear 58 = .ok (.dup2, 1) := by decide +kernel
theorem dX7_hear_59 : decode cX7_hear 59 = .ok (.iaload, 1) := by decide +kernel
theorem dX7_hear_60 : decode cX7_hear 60 = .ok (.iconst 1, 1) := by decide +kernel
theorem dX7_hear_61 : decode cX7_hear 61 = .ok (.iadd, 1) := by decide +kernel
theorem dX7_hear_62 : decode cX7_hear 62 = .ok (.iastore, 1) := by decide +kernel
theorem dX7_hear_63 : decode cX7_hear 63 = .ok (.aload_n 0, 1) := by decide +kernel
theorem dX7_hear_64 : decode cX7_hear 64 = .ok (.iload_n 1, 1) := by decide +kernel
theorem dX7_hear_65 : decode cX7_hear 65 = .ok (.invokevirtual 196, 3) := by decide +kernel
theorem dX7_hear_68 : decode cX7_hear 68 = .ok (.goto 39, 3) := by decide +kernel
theorem dX7_hear_71 : decode cX7_hear 71 = .ok (.aload_n 0, 1) := by decide +kernel
theorem dX7_hear_72 : decode cX7_hear 72 = .ok (.getfield 43, 3) := by decide +kernel
theorem dX7_hear_75 : decode cX7_hear 75 = .ok (.iload_n 1, 1) := by decide +kernel
theorem dX7_hear_76 : decode cX7_hear 76 = .ok (.iload_n 2, 1) := by decide +kernel
theorem dX7_hear_77 : decode cX7_hear 77 = .ok (.ifCond .eq 14, 3) := by decide +kernel
theorem dX7_hear_80 : decode cX7_hear 80 = .ok (.aload_n 0, 1) := by decide +kernel
theorem dX7_hear_81 : decode cX7_hear 81 = .ok (.getfield 43, 3) := by decide +kernel
theorem dX7_hear_84 : decode cX7_hear 84 = .ok (.iload_n 1, 1) := by decide +kernel
theorem dX7_hear_85 : decode cX7_hear 85 = .ok (.iaload, 1) := by decide +kernel
theorem dX7_hear_86 : decode cX7_hear 86 = .ok (.iconst 1, 1) := by decide +kernel
theorem dX7_hear_87 : decode cX7_hear 87 = .ok (.iadd, 1) := by decide +kernel
theorem dX7_hear_88 : decode cX7_hear 88 = .ok (.goto 9, 3) := by decide +kernel
theorem dX7_hear_91 : decode cX7_hear 91 = .ok (.aload_n 0, 1) := by decide +kernel
theorem dX7_hear_92 : decode cX7_hear 92 = .ok (.getfield 43, 3) := by decide +kernel
theorem dX7_hear_95 : decode cX7_hear 95 = .ok (.iload_n 1, 1) := by decide +kernel
theorem dX7_hear_96 : decode cX7_hear 96 = .ok (.iaload, 1) := by decide +kernel
theorem dX7_hear_97 : decode cX7_hear 97 = .ok (.iastore, 1) := by decide +kernel
theorem dX7_hear_98 : decode cX7_hear 98 = .ok (.aload_n 0, 1) := by decide +kernel
theorem dX7_hear_99 : decode cX7_hear 99 = .ok (.iload_n 1, 1) := by decide +kernel
theorem dX7_hear_100 : decode cX7_hear 100 = .ok (.iload_n 2, 1) := by decide +kernel
theorem dX7_hear_101 : decode cX7_hear 101 = .ok (.invokevirtual 199, 3) := by decide +kernel
theorem dX7_hear_104 : decode cX7_hear 104 = .ok (.goto 3, 3) := by decide +kernel
theorem dX7_hear_107 : decode cX7_hear 107 = .ok (.return_, 1) := by decide +kernel
theorem dX7_hearSearch_0 : decode cX7_hearSearch 0 = .ok (.aload_n 0, 1) := by decide +kernel
theorem dX7_hearSearch_1 : decode cX7_hearSearch 1 = .ok (.bipush 21, 2) := by decide +kernel
theorem dX7_hearSearch_3 : decode cX7_hearSearch 3 = .ok (.invokevirtual 177, 3) := by decide +kernel
theorem dX7_hearSearch_6 : decode cX7_hearSearch 6 = .ok (.istore_n 3, 1) := by decide +kernel
theorem dX7_hearSearch_7 : decode cX7_hearSearch 7 = .ok (.aload_n 0, 1) := by decide +kernel
theorem dX7_hearSearch_8 : decode cX7_hearSearch 8 = .ok (.bipush 23, 2) := by decide +kernel
theorem dX7_hearSearch_10 : decode cX7_hearSearch 10 = .ok (.invokevirtual 123, 3) := by decide +kernel
theorem dX7_hearSearch_13 : decode cX7_hearSearch 13 = .ok (.istore 4, 2) := by decide +kernel
theorem dX7_hearSearch_15 : decode cX7_hearSearch 15 = .ok (.iload_n 3, 1) := by decide +kernel
theorem dX7_hearSearch_16 : decode cX7_hearSearch 16 = .ok (.iconst 1, 1) := by decide +kernel
theorem dX7_hearSearch_17 : decode cX7_hearSearch 17 = .ok (.if_icmp .ne 59, 3) := by decide +kernel
theorem dX7_hearSearch_20 : decode cX7_hearSearch 20 = .ok (.iload 4, 2) := by decide +kernel
theorem dX7_hearSearch_22 : decode cX7_hearSearch 22 = .ok (.bipush 12, 2) := by decide +kernel
theorem dX7_hearSearch_24 : decode cX7_hearSearch 24 = .ok (.if_icmp .ne 52, 3) := by decide +kernel
theorem dX7_hearSearch_27 : decode cX7_hearSearch 27 = .ok (.aload_n 0, 1) := by decide +kernel
theorem dX7_hearSearch_28 : decode cX7_hearSearch 28 = .ok (.iload_n 1, 1) := by decide +kernel
theorem dX7_hearSearch_29 : decode cX7_hearSearch 29 = .ok (.invokevirtual 153, 3) := by decide +kernel
theorem dX7_hearSearch_32 : decode cX7_hearSearch 32 = .ok (.lstore 5, 2) := by decide +kernel
theorem dX7_hearSearch_34 : decode cX7_hearSearch 34 = .ok (.aload_n 0, 1) := by decide +kernel
theorem dX7_hearSearch_35 : decode cX7_hearSearch 35 = .ok (.getfield 29, 3) := by decide +kernel
theorem dX7_hearSearch_38 : decode cX7_hearSearch 38 = .ok (.iload_n 1, 1) := by decide +kernel
theorem dX7_hearSearch_39 : decode cX7_hearSearch 39 = .ok (.baload, 1) := by decide +kernel
theorem dX7_hearSearch_40 : decode cX7_hearSearch 40 = .ok (.ifCond .ne 33, 3) := by decide +kernel
theorem dX7_hearSearch_43 : decode cX7_hearSearch 43 = .ok (.lload 5, 2) := by decide +kernel
theorem dX7_hearSearch_45 : decode cX7_hearSearch 45 = .ok (.aload_n 0, 1) := by decide +kernel
theorem dX7_hearSearch_46 : decode cX7_hearSearch 46 = .ok (.bipush 24, 2) := by decide +kernel
theorem dX7_hearSearch_48 : decode cX7_hearSearch 48 = .ok (.invokevirtual 149, 3) := by decide +kernel
theorem dX7_hearSearch_51 : decode cX7_hearSearch 51 = .ok (.lcmp, 1) := by decide +kernel
theorem dX7_hearSearch_52 : decode cX7_hearSearch 52 = .ok (.ifCond .lt 21, 3) := by decide +kernel
theorem dX7_hearSearch_55 : decode cX7_hearSearch 55 = .ok (.lload 5, 2) := by decide +kernel
theorem dX7_hearSearch_57 : decode cX7_hearSearch 57 = .ok (.aload_n 0, 1) := by decide +kernel
theorem dX7_hearSearch_58 : decode cX7_hearSearch 58 = .ok (.bipush 30, 2) := by decide +kernel
theorem dX7_hearSearch_60 : decode cX7_hearSearch 60 = .ok (.invokevirtual 149, 3) := by decide +kernel
theorem dX7_hearSearch_63 : decode cX7_hearSearch 63 = .ok (.lcmp, 1) := by decide +kernel
theorem dX7_hearSearch_64 : decode cX7_hearSearch 64 = .ok (.ifCond .gt 9, 3) := by decide +kernel
theorem dX7_hearSearch_67 : decode cX7_hearSearch 67 = .ok (.aload_n 0, 1) := by decide +kernel
theorem dX7_hearSearch_68 : decode cX7_hearSearch 68 = .ok (.lload 5, 2) := by decide +kernel
theorem dX7_hearSearch_70 : decode cX7_hearSearch 70 = .ok (.invokevirtual 202, 3) := by decide +kernel
theorem dX7_hearSearch_73 : decode cX7_hearSearch 73 = .ok (.goto 57, 3) := by decide +kernel
theorem dX7_hearSearch_76 : decode cX7_hearSearch 76 = .ok (.iload_n 3, 1) := by decide +kernel
theorem dX7_hearSearch_77 : decode cX7_hearSearch 77 = .ok (.iconst 2, 1) := by decide +kernel
theorem dX7_hearSearch_78 : decode cX7_hearSearch 78 = .ok (.if_icmp .eq 8, 3) := by decide +kernel
theorem dX7_hearSearch_81 : decode cX7_hearSearch 81 = .ok (.iload_n 3, 1) := by decide +kernel
theorem dX7_hearSearch_82 : decode cX7_hearSearch 82 = .ok (.iconst 3, 1) := by decide +kernel
theorem dX7_hearSearch_83 : decode cX7_hearSearch 83 = .ok (.if_icmp .ne 47, 3) := by decide +kernel
theorem dX7_hearSearch_86 : decode cX7_hearSearch 86 = .ok (.iload 4, 2) := by decide +kernel
theorem dX7_hearSearch_88 : decode cX7_hearSearch 88 = .ok (.ifCond .ne 42, 3) := by decide +kernel
theorem dX7_hearSearch_91 : decode cX7_hearSearch 91 = .ok (.aload_n 0, 1) := by decide +kernel
theorem dX7_hearSearch_92 : decode cX7_hearSearch 92 = .ok (.getfield 29, 3) := by decide +kernel
theorem dX7_hearSearch_95 : decode cX7_hearSearch 95 = .ok (.iload_n 1, 1) := by decide +kernel
theorem dX7_hearSearch_96 : decode cX7_hearSearch 96 = .ok (.iload_n 3, 1) := by decide +kernel
theorem dX7_hearSearch_97 : decode cX7_hearSearch 97 = .ok (.iconst 2, 1) := by decide +kernel
theorem dX7_hearSearch_98 : decode cX7_hearSearch 98 = .ok (.if_icmp .ne 7, 3) := by decide +kernel
theorem dX7_hearSearch_101 : decode cX7_hearSearch 101 = .ok (.iconst 1, 1) := by decide +kernel
theorem dX7_hearSearch_102 : decode cX7_hearSearch 102 = .ok (.goto 4, 3) := by decide +kernel
theorem dX7_hearSearch_105 : decode cX7_hearSearch 105 = .ok (.iconst 0, 1) := by decide +kernel
theorem dX7_hearSearch_106 : decode cX7_hearSearch 106 = .ok (.bastore, 1) := by decide +kernel
theorem dX7_hearSearch_107 : decode cX7_hearSearch 107 = .ok (.iload_n 2, 1) := by decide +kernel
theorem dX7_hearSearch_108 : decode cX7_hearSearch 108 = .ok (.ifCond .eq 22, 3) := by decide +kernel
theorem dX7_hearSearch_111 : decode cX7_hearSearch 111 = .ok (.aload_n 0, 1) := by decide +kernel
theorem dX7_hearSearch_112 : decode cX7_hearSearch 112 = .ok (.iload_n 1, 1) := by decide +kernel
theorem dX7_hearSearch_113 : decode cX7_hearSearch 113 = .ok (.iconst 0, 1) := by decide +kernel
theorem dX7_hearSearch_114 : decode cX7_hearSearch 114 = .ok (.bipush 17, 2) := by decide +kernel
theorem dX7_hearSearch_116 : decode cX7_hearSearch 116 = .ok (.iload_n 3, 1) := by decide +kernel
theorem dX7_hearSearch_117 : decode cX7_hearSearch 117 = .ok (.invokevirtual 205, 3) := by decide +kernel
theorem dX7_hearSearch_120 : decode cX7_hearSearch 120 = .ok (.aload_n 0, 1) := by decide +kernel
theorem dX7_hearSearch_121 : decode cX7_hearSearch 121 = .ok (.iconst 0, 1) := by decide +kernel
theorem dX7_hearSearch_122 : decode cX7_hearSearch 122 = .ok (.invokevirtual 187, 3) := by decide +kernel
theorem dX7_hearSearch_125 : decode cX7_hearSearch 125 = .ok (.aload_n 0, 1) := by decide +kernel
theorem dX7_hearSearch_126 : decode cX7_hearSearch 126 = .ok (.iload_n 1, 1) := by decide +kernel
theorem dX7_hearSearch_127 : decode cX7_hearSearch 127 = .ok (.invokevirtual 209, 3) := by decide +kernel
theorem dX7_hearSearch_130 : decode cX7_hearSearch 130 = .ok (.return_, 1) := by decide +kernel
theorem dX7_show_0 : decode cX7_show 0 = .ok (.aload_n 0, 1) := by decide +kernel
theorem dX7_show_1 : decode cX7_show 1 = .ok (.iconst 0, 1) := by decide +kernel
theorem dX7_show_2 : decode cX7_show 2 = .ok (.putfield 160, 3) := by decide +kernel
theorem dX7_show_5 : decode cX7_show 5 = .ok (.iconst 0, 1) := by decide +kernel
theorem dX7_show_6 : decode cX7_show 6 = .ok (.istore_n 3, 1) := by decide +kernel
theorem dX7_show_7 : decode cX7_show 7 = .ok (.iload_n 3, 1) := by decide +kernel
theorem dX7_show_8 : decode cX7_show 8 = .ok (.bipush 7, 2) := by decide +kernel
theorem dX7_show_10 : decode cX7_show 10 = .ok (.if_icmp .ge 16, 3) := by decide +kernel
theorem dX7_show_13 : decode cX7_show 13 = .ok (.aload_n 0, 1) := by decide +kernel
theorem dX7_show_14 : decode cX7_show 14 = .ok (.sipush 254, 3) := by decide +kernel
theorem dX7_show_17 : decode cX7_show 17 = .ok (.invokevirtual 180, 3) := by decide +kernel
theorem dX7_show_20 : decode cX7_show 20 = .ok (.iinc 3 1, 3) := by decide +kernel
theorem dX7_show_23 : decode cX7_show 23 = .ok (.goto (-16), 3) := by decide +kernel
theorem dX7_show_26 : decode cX7_show 26 = .ok (.aload_n 0, 1) := by decide +kernel
theorem dX7_show_27 : decode cX7_show 27 = .ok (.sipush 170, 3) := by decide +kernel
theorem dX7_show_30 : decode cX7_show 30 = .ok (.invokevirtual 180, 3) := by decide +kernel
theorem dX7_show_33 : decode cX7_show 33 = .ok (.iconst 0, 1) := by decide +kernel
theorem dX7_show_34 : decode cX7_show 34 = .ok (.istore_n 3, 1) := by decide +kernel
theorem dX7_show_35 : decode cX7_show 35 = .ok (.bipush 40, 2) := by decide +kernel
theorem dX7_show_37 : decode cX7_show 37 = .ok (.istore 4, 2) := by decide +kernel
theorem dX7_show_39 : decode cX7_show 39 = .ok (.iload 4, 2) := by decide +kernel
theorem dX7_show_41 : decode cX7_show 41 = .ok (.ifCond .lt 54, 3) := by decide +kernel
theorem dX7_show_44 : decode cX7_show 44 = .ok (.lload_n 1, 1) := by decide +kernel
theorem dX7_show_45 : decode cX7_show 45 = .ok (.iload 4, 2) := by decide +kernel
theorem dX7_show_47 : decode cX7_show 47 = .ok (.lshr, 1) := by decide +kernel
theorem dX7_show_48 : decode cX7_show 48 = .ok (.l2i, 1) := by decide +kernel
theorem dX7_show_49 : decode cX7_show 49 = .ok (.sipush 255, 3) := by decide +kernel
theorem dX7_show_52 : decode cX7_show 52 = .ok (.iand, 1) := by decide +kernel
theorem dX7_show_53 : decode cX7_show 53 = .ok (.istore 5, 2) := by decide +kernel
theorem dX7_show_55 : decode cX7_show 55 = .ok (.aload_n 0, 1) := by decide +kernel
theorem dX7_show_56 : decode cX7_show 56 = .ok (.iload 5, 2) := by decide +kernel
theorem dX7_show_58 : decode cX7_show 58 = .ok (.sipush 170, 3) := by decide +kernel
theorem dX7_show_61 : decode cX7_show 61 = .ok (.ior, 1) := by decide +kernel
theorem dX7_show_62 : decode cX7_show 62 = .ok (.invokevirtual 180, 3) := by decide +kernel
theorem dX7_show_65 : decode cX7_show 65 = .ok (.aload_n 0, 1) := by decide +kernel
theorem dX7_show_66 : decode cX7_show 66 = .ok (.iload 5, 2) := by decide +kernel
theorem dX7_show_68 : decode cX7_show 68 = .ok (.bipush 85, 2) := by decide +kernel
theorem dX7_show_70 : decode cX7_show 70 = .ok (.ior, 1) := by decide +kernel
theorem dX7_show_71 : decode cX7_show 71 = .ok (.invokevirtual 180, 3) := by decide +kernel
theorem dX7_show_74 : decode cX7_show 74 = .ok (.iload_n 3, 1) := by decide +kernel
theorem dX7_show_75 : decode cX7_show 75 = .ok (.iload 5, 2) := by decide +kernel
theorem dX7_show_77 : decode cX7_show 77 = .ok (.sipush 170, 3) := by decide +kernel
theorem dX7_show_80 : decode cX7_show 80 = .ok (.ior, 1) := by decide +kernel
theorem dX7_show_81 : decode cX7_show 81 = .ok (.iadd, 1) := by decide +kernel
theorem dX7_show_82 : decode cX7_show 82 = .ok (.iload 5, 2) := by decide +kernel
theorem dX7_show_84 : decode cX7_show 84 = .ok (.bipush 85, 2) := by decide +kernel
theorem dX7_show_86 : decode cX7_show 86 = .ok (.ior, 1) := by decide +kernel
theorem dX7_show_87 : decode cX7_show 87 = .ok (.iadd, 1) := by decide +kernel
theorem dX7_show_88 : decode cX7_show 88 = .ok (.istore_n 3, 1) := by decide +kernel
theorem dX7_show_89 : decode cX7_show 89 = .ok (.iinc 4 (-8), 3) := by decide +kernel
theorem dX7_show_92 : decode cX7_show 92 = .ok (.goto (-53), 3) := by decide +kernel
theorem dX7_show_95 : decode cX7_show 95 = .ok (.aload_n 0, 1) := by decide +kernel
theorem dX7_show_96 : decode cX7_show 96 = .ok (.iload_n 3, 1) := by decide +kernel
theorem dX7_show_97 : decode cX7_show 97 = .ok (.bipush 8, 2) := by decide +kernel
theorem dX7_show_99 : decode cX7_show 99 = .ok (.ishr, 1) := by decide +kernel
theorem dX7_show_100 : decode cX7_show 100 = .ok (.sipush 255, 3) := by decide +kernel
theorem dX7_show_103 : decode cX7_show 103 = .ok (.iand, 1) := by decide +kernel
theorem dX7_show_104 : decode cX7_show 104 = .ok (.sipush 170, 3) := by decide +kernel
theorem dX7_show_107 : decode cX7_show 107 = .ok (.ior, 1) := by decide +kernel
theorem dX7_show_108 : decode cX7_show 108 = .ok (.invokevirtual 180, 3) := by decide +kernel
theorem dX7_show_111 : decode cX7_show 111 = .ok (.aload_n 0, 1) := by decide +kernel
theorem dX7_show_112 : decode cX7_show 112 = .ok (.iload_n 3, 1) := by decide +kernel
theorem dX7_show_113 : decode cX7_show 113 = .ok (.bipush 8, 2) := by decide +kernel
theorem dX7_show_115 : decode cX7_show 115 = .ok (.ishr, 1) := by decide +kernel
theorem dX7_show_116 : decode cX7_show 116 = .ok (.sipush 255, 3) := by decide +kernel
theorem dX7_show_119 : decode cX7_show 119 = .ok (.iand, 1) := by decide +kernel
theorem dX7_show_120 : decode cX7_show 120 = .ok (.bipush 85, 2) := by decide +kernel
theorem dX7_show_122 : decode cX7_show 122 = .ok (.ior, 1) := by decide +kernel
theorem dX7_show_123 : decode cX7_show 123 = .ok (.invokevirtual 180, 3) := by decide +kernel
theorem dX7_show_126 : decode cX7_show 126 = .ok (.aload_n 0, 1) := by decide +kernel
theorem dX7_show_127 : decode cX7_show 127 = .ok (.iload_n 3, 1) := by decide +kernel
theorem dX7_show_128 : decode cX7_show 128 = .ok (.sipush 255, 3) := by decide +kernel
theorem dX7_show_131 : decode cX7_show 131 = .ok (.iand, 1) := by decide +kernel
theorem dX7_show_132 : decode cX7_show 132 = .ok (.sipush 170, 3) := by decide +kernel
theorem dX7_show_135 : decode cX7_show 135 = .ok (.ior, 1) := by decide +kernel
theorem dX7_show_136 : decode cX7_show 136 = .ok (.invokevirtual 180, 3) := by decide +kernel
theorem dX7_show_139 : decode cX7_show 139 = .ok (.aload_n 0, 1) := by decide +kernel
theorem dX7_show_140 : decode cX7_show 140 = .ok (.iload_n 3, 1) := by decide +kernel
theorem dX7_show_141 : decode cX7_show 141 = .ok (.sipush 255, 3) := by decide +kernel
theorem dX7_show_144 : decode cX7_show 144 = .ok (.iand, 1) := by decide +kernel
theorem dX7_show_145 : decode cX7_show 145 = .ok (.bipush 85, 2) := by decide +kernel
theorem dX7_show_147 : decode cX7_show 147 = .ok (.ior, 1) := by decide +kernel
theorem dX7_show_148 : decode cX7_show 148 = .ok (.invokevirtual 180, 3) := by decide +kernel
theorem dX7_show_151 : decode cX7_show 151 = .ok (.return_, 1) := by decide +kernel
theorem dX7_refuse_0 : decode cX7_refuse 0 = .ok (.iload_n 2, 1) := by decide +kernel
theorem dX7_refuse_1 : decode cX7_refuse 1 = .ok (.ifCond .eq 33, 3) := by decide +kernel
theorem dX7_refuse_4 : decode cX7_refuse 4 = .ok (.aload_n 0, 1) := by decide +kernel
theorem dX7_refuse_5 : decode cX7_refuse 5 = .ok (.iload_n 1, 1) := by decide +kernel
theorem dX7_refuse_6 : decode cX7_refuse 6 = .ok (.iconst 2, 1) := by decide +kernel
theorem dX7_refuse_7 : decode cX7_refuse 7 = .ok (.aload_n 0, 1) := by decide +kernel
theorem dX7_refuse_8 : decode cX7_refuse 8 = .ok (.bipush 20, 2) := by decide +kernel
theorem dX7_refuse_10 : decode cX7_refuse 10 = .ok (.invokevirtual 123, 3) := by decide +kernel
theorem dX7_refuse_13 : decode cX7_refuse 13 = .ok (.iconst 1, 1) := by decide +kernel
theorem dX7_refuse_14 : decode cX7_refuse 14 = .ok (.iadd, 1) := by decide +kernel
theorem dX7_refuse_15 : decode cX7_refuse 15 = .ok (.aload_n 0, 1) := by decide +kernel
theorem dX7_refuse_16 : decode cX7_refuse 16 = .ok (.bipush 21, 2) := by decide +kernel
theorem dX7_refuse_18 : decode cX7_refuse 18 = .ok (.invokevirtual 177, 3) := by decide +kernel
theorem dX7_refuse_21 : decode cX7_refuse 21 = .ok (.invokevirtual 205, 3) := by decide +kernel
theorem dX7_refuse_24 : decode cX7_refuse 24 = .ok (.aload_n 0, 1) := by decide +kernel
theorem dX7_refuse_25 : decode cX7_refuse 25 = .ok (.iload_n 3, 1) := by decide +kernel
theorem dX7_refuse_26 : decode cX7_refuse 26 = .ok (.invokevirtual 187, 3) := by decide +kernel
theorem dX7_refuse_29 : decode cX7_refuse 29 = .ok (.aload_n 0, 1) := by decide +kernel
theorem dX7_refuse_30 : decode cX7_refuse 30 = .ok (.iload_n 1, 1) := by decide +kernel
theorem dX7_refuse_31 : decode cX7_refuse 31 = .ok (.invokevirtual 209, 3) := by decide +kernel
theorem dX7_refuse_34 : decode cX7_refuse 34 = .ok (.return_, 1) := by decide +kernel
theorem dX7_isMatter_0 : decode cX7_isMatter 0 = .ok (.iload_n 0, 1) := by decide +kernel
theorem dX7_isMatter_1 : decode cX7_isMatter 1 = .ok (.bipush 80, 2) := by decide +kernel
theorem dX7_isMatter_3 : decode cX7_isMatter 3 = .ok (.if_icmp .eq 50, 3) := by decide +kernel
theorem dX7_isMatter_6 : decode cX7_isMatter 6 = .ok (.iload_n 0, 1) := by decide +kernel
theorem dX7_isMatter_7 : decode cX7_isMatter 7 = .ok (.bipush 96, 2) := by decide +kernel
theorem dX7_isMatter_9 : decode cX7_isMatter 9 = .ok (.if_icmp .eq 44, 3) := by decide +kernel
theorem dX7_isMatter_12 : decode cX7_isMatter 12 = .ok (.iload_n 0, 1) := by decide +kernel
theorem dX7_isMatter_13 : decode cX7_isMatter 13 = .ok (.sipush 128, 3) := by decide +kernel
theorem dX7_isMatter_16 : decode cX7_isMatter 16 = .ok (.if_icmp .eq 37, 3) := by decide +kernel
theorem dX7_isMatter_19 : decode cX7_isMatter 19 = .ok (.iload_n 0, 1) := by decide +kernel
theorem dX7_isMatter_20 : decode cX7_isMatter 20 = .ok (.sipush 130, 3) := by decide +kernel
theorem dX7_isMatter_23 : decode cX7_isMatter 23 = .ok (.if_icmp .eq 30, 3) := by decide +kernel
theorem dX7_isMatter_26 : decode cX7_isMatter 26 = .ok (.iload_n 0, 1) := by decide +kernel
theorem dX7_isMatter_27 : decode cX7_isMatter 27 = .ok (.sipush 224, 3) := by decide +kernel
theorem dX7_isMatter_30 : decode cX7_isMatter 30 = .ok (.if_icmp .eq 23, 3) := by decide +kernel
theorem dX7_isMatter_33 : decode cX7_isMatter 33 = .ok (.iload_n 0, 1) := by decide +kernel
theorem dX7_isMatter_34 : decode cX7_isMatter 34 = .ok (.sipush 240, 3) := by decide +kernel
theorem dX7_isMatter_37 : decode cX7_isMatter 37 = .ok (.if_icmp .eq 16, 3) := by decide +kernel
theorem dX7_isMatter_40 : decode cX7_isMatter 40 = .ok (.iload_n 0, 1) := by decide +kernel
theorem dX7_isMatter_41 : decode cX7_isMatter 41 = .ok (.sipush 4096, 3) := by decide +kernel
theorem dX7_isMatter_44 : decode cX7_isMatter 44 = .ok (.if_icmp .eq 9, 3) := by decide +kernel
theorem dX7_isMatter_47 : decode cX7_isMatter 47 = .ok (.iload_n 0, 1) := by decide +kernel
theorem dX7_isMatter_48 : decode cX7_isMatter 48 = .ok (.bipush 32, 2) := by decide +kernel
theorem dX7_isMatter_50 : decode cX7_isMatter 50 = .ok (.if_icmp .ne 7, 3) := by decide +kernel
theorem dX7_isMatter_53 : decode cX7_isMatter 53 = .ok (.iconst 1, 1) := by decide +kernel
theorem dX7_isMatter_54 : decode cX7_isMatter 54 = .ok (.goto 4, 3) := by decide +kernel
theorem dX7_isMatter_57 : decode cX7_isMatter 57 = .ok (.iconst 0, 1) := by decide +kernel
theorem dX7_isMatter_58 : decode cX7_isMatter 58 = .ok (.ireturn, 1) := by decide +kernel
theorem dX7_get_0 : decode cX7_get 0 = .ok (.aload_n 0, 1) := by decide +kernel
theorem dX7_get_1 : decode cX7_get 1 = .ok (.bipush 21, 2) := by decide +kernel
theorem dX7_get_3 : decode cX7_get 3 = .ok (.invokevirtual 177, 3) := by decide +kernel
theorem dX7_get_6 : decode cX7_get 6 = .ok (.istore_n 2, 1) := by decide +kernel
theorem dX7_get_7 : decode cX7_get 7 = .ok (.aload_n 0, 1) := by decide +kernel
theorem dX7_get_8 : decode cX7_get 8 = .ok (.bipush 18, 2) := by decide +kernel
theorem dX7_get_10 : decode cX7_get 10 = .ok (.invokevirtual 177, 3) := by decide +kernel
theorem dX7_get_13 : decode cX7_get 13 = .ok (.ifCond .eq 14, 3) := by decide +kernel
theorem dX7_get_16 : decode cX7_get 16 = .ok (.aload_n 0, 1) := by decide +kernel
theorem dX7_get_17 : decode cX7_get 17 = .ok (.iload_n 1, 1) := by decide +kernel
theorem dX7_get_18 : decode cX7_get 18 = .ok (.iconst 1, 1) := by decide +kernel
theorem dX7_get_19 : decode cX7_get 19 = .ok (.bipush 9, 2) := by decide +kernel
theorem dX7_get_21 : decode cX7_get 21 = .ok (.invokevirtual 212, 3) := by decide +kernel
theorem dX7_get_24 : decode cX7_get 24 = .ok (.goto 84, 3) := by decide +kernel
theorem dX7_get_27 : decode cX7_get 27 = .ok (.iload_n 2, 1) := by decide +kernel
theorem dX7_get_28 : decode cX7_get 28 = .ok (.invokestatic 216, 3) := by decide +kernel
theorem dX7_get_31 : decode cX7_get 31 = .ok (.ifCond .ne 13, 3) := by decide +kernel
theorem dX7_get_34 : decode cX7_get 34 = .ok (.aload_n 0, 1) := by decide +kernel
theorem dX7_get_35 : decode cX7_get 35 = .ok (.iload_n 1, 1) := by decide +kernel
theorem dX7_get_36 : decode cX7_get 36 = .ok (.iconst 1, 1) := by decide +kernel
theorem dX7_get_37 : decode cX7_get 37 = .ok (.iconst 0, 1) := by decide +kernel
theorem dX7_get_38 : decode cX7_get 38 = .ok (.invokevirtual 212, 3) := by decide +kernel
theorem dX7_get_41 : decode cX7_get 41 = .ok (.goto 67, 3) := by decide +kernel
theorem dX7_get_44 : decode cX7_get 44 = .ok (.aload_n 0, 1) := by decide +kernel
theorem dX7_get_45 : decode cX7_get 45 = .ok (.bipush 23, 2) := by decide +kernel
theorem dX7_get_47 : decode cX7_get 47 = .ok (.invokevirtual 123, 3) := by decide +kernel
theorem dX7_get_50 : decode cX7_get 50 = .ok (.iload_n 2, 1) := by decide +kernel
theorem dX7_get_51 : decode cX7_get 51 = .ok (.bipush 32, 2) := by decide +kernel
theorem dX7_get_53 : decode cX7_get 53 = .ok (.if_icmp .ne 7, 3) := by decide +kernel
theorem dX7_get_56 : decode cX7_get 56 = .ok (.iconst 1, 1) := by decide +kernel
theorem dX7_get_57 : decode cX7_get 57 = .ok (.goto 4, 3) := by decide +kernel
theorem dX7_get_60 : decode cX7_get 60 = .ok (.iconst 0, 1) := by decide +kernel
theorem dX7_get_61 : decode cX7_get 61 = .ok (.if_icmp .eq 13, 3) := by decide +kernel
theorem dX7_get_64 : decode cX7_get 64 = .ok (.aload_n 0, 1) := by decide +kernel
theorem dX7_get_65 : decode cX7_get 65 = .ok (.iload_n 1, 1) := by decide +kernel
theorem dX7_get_66 : decode cX7_get 66 = .ok (.iconst 1, 1) := by decide +kernel
theorem dX7_get_67 : decode cX7_get 67 = .ok (.iconst 1, 1) := by decide +kernel
theorem dX7_get_68 : decode cX7_get 68 = .ok (.invokevirtual 212, 3) := by decide +kernel
theorem dX7_get_71 : decode cX7_get 71 = .ok (.goto 37, 3) := by decide +kernel
theorem dX7_get_74 : decode cX7_get 74 = .ok (.iload_n 2, 1) := by decide +kernel
theorem dX7_get_75 : decode cX7_get 75 = .ok (.bipush 32, 2) := by decide +kernel
theorem dX7_get_77 : decode cX7_get 77 = .ok (.if_icmp .ne 11, 3) := by decide +kernel
theorem dX7_get_80 : decode cX7_get 80 = .ok (.aload_n 0, 1) := by decide +kernel
theorem dX7_get_81 : decode cX7_get 81 = .ok (.iload_n 1, 1) := by decide +kernel
theorem dX7_get_82 : decode cX7_get 82 = .ok (.invokevirtual 220, 3) := by decide +kernel
theorem dX7_get_85 : decode cX7_get 85 = .ok (.goto 23, 3) := by decide +kernel
theorem dX7_get_88 : decode cX7_get 88 = .ok (.aload_n 0, 1) := by decide +kernel
theorem dX7_get_89 : decode cX7_get 89 = .ok (.iload_n 1, 1) := by decide +kernel
theorem dX7_get_90 : decode cX7_get 90 = .ok (.iconst 0, 1) := by decide +kernel
theorem dX7_get_91 : decode cX7_get 91 = .ok (.bipush 33, 2) := by decide +kernel
theorem dX7_get_93 : decode cX7_get 93 = .ok (.iload_n 2, 1) := by decide +kernel
theorem dX7_get_94 : decode cX7_get 94 = .ok (.invokevirtual 205, 3) := by decide +kernel
theorem dX7_get_97 : decode cX7_get 97 = .ok (.aload_n 0, 1) := by decide +kernel
theorem dX7_get_98 : decode cX7_get 98 = .ok (.iload_n 1, 1) := by decide +kernel
theorem dX7_get_99 : decode cX7_get 99 = .ok (.iload_n 2, 1) := by decide +kernel
theorem dX7_get_100 : decode cX7_get 100 = .ok (.invokevirtual 223, 3) := by decide +kernel
theorem dX7_get_103 : decode cX7_get 103 = .ok (.aload_n 0, 1) := by decide +kernel
theorem dX7_get_104 : decode cX7_get 104 = .ok (.iload_n 1, 1) := by decide +kernel
theorem dX7_get_105 : decode cX7_get 105 = .ok (.invokevirtual 209, 3) := by decide +kernel
theorem dX7_get_108 : decode cX7_get 108 = .ok (.return_, 1) := by decide +kernel
theorem dX7_tell_0 : decode cX7_tell 0 = .ok (.iload_n 2, 1) := by decide +kernel
theorem dX7_tell_1 : decode cX7_tell 1 = .ok (.lookupswitch 363 #[(80, 59), (96, 115), (128, 210), (130, 291), (224, 327), (240, 350)], 59) := by decide +kernel
theorem dX7_tell_60 : decode cX7_tell 60 = .ok (.aload_n 0, 1) := by decide +kernel
theorem dX7_tell_61 : decode cX7_tell 61 = .ok (.bipush 80, 2) := by decide +kernel
theorem dX7_tell_63 : decode cX7_tell 63 = .ok (.invokevirtual 187, 3) := by decide +kernel
theorem dX7_tell_66 : decode cX7_tell 66 = .ok (.aload_n 0, 1) := by decide +kernel
theorem dX7_tell_67 : decode cX7_tell 67 = .ok (.bipush 96, 2) := by decide +kernel
theorem dX7_tell_69 : decode cX7_tell 69 = .ok (.invokevirtual 187, 3) := by decide +kernel
theorem dX7_tell_72 : decode cX7_tell 72 = .ok (.aload_n 0, 1) := by decide +kernel
theorem dX7_tell_73 : decode cX7_tell 73 = .ok (.sipush 128, 3) := by decide +kernel
theorem dX7_tell_76 : decode cX7_tell 76 = .ok (.invokevirtual 187, 3) := by decide +kernel
theorem dX7_tell_79 : decode cX7_tell 79 = .ok (.aload_n 0, 1) := by decide +kernel
theorem dX7_tell_80 : decode cX7_tell 80 = .ok (.sipush 130, 3) := by decide +kernel
theorem dX7_tell_83 : decode cX7_tell 83 = .ok (.invokevirtual 187, 3) := by decide +kernel
theorem dX7_tell_86 : decode cX7_tell 86 = .ok (.aload_n 0, 1) := by decide +kernel
theorem dX7_tell_87 : decode cX7_tell 87 = .ok (.sipush 224, 3) := by decide +kernel
theorem dX7_tell_90 : decode cX7_tell 90 = .ok (.invokevirtual 187, 3) := by decide +kernel
theorem dX7_tell_93 : decode cX7_tell 93 = .ok (.aload_n 0, 1) := by decide +kernel
theorem dX7_tell_94 : decode cX7_tell 94 = .ok (.sipush 240, 3) := by decide +kernel
theorem dX7_tell_97 : decode cX7_tell 97 = .ok (.invokevirtual 187, 3) := by decide +kernel
theorem dX7_tell_100 : decode cX7_tell 100 = .ok (.aload_n 0, 1) := by decide +kernel
theorem dX7_tell_101 : decode cX7_tell 101 = .ok (.sipush 4096, 3) := by decide +kernel
theorem dX7_tell_104 : decode cX7_tell 104 = .ok (.invokevirtual 187, 3) := by decide +kernel
theorem dX7_tell_107 : decode cX7_tell 107 = .ok (.aload_n 0, 1) := by decide +kernel
theorem dX7_tell_108 : decode cX7_tell 108 = .ok (.bipush 32, 2) := by decide +kernel
theorem dX7_tell_110 : decode cX7_tell 110 = .ok (.invokevirtual 187, 3) := by decide +kernel
theorem dX7_tell_113 : decode cX7_tell 113 = .ok (.goto 269, 3) := by decide +kernel
theorem dX7_tell_116 : decode cX7_tell 116 = .ok (.aload_n 0, 1) := by decide +kernel
theorem dX7_tell_117 : decode cX7_tell 117 = .ok (.aload_n 0, 1) := by decide +kernel
theorem dX7_tell_118 : decode cX7_tell 118 = .ok (.getfield 7, 3) := by decide +kernel
theorem dX7_tell_121 : decode cX7_tell 121 = .ok (.iload_n 1, 1) := by decide +kernel
theorem dX7_tell_122 : decode cX7_tell 122 = .ok (.iaload, 1) := by decide +kernel
theorem dX7_tell_123 : decode cX7_tell 123 = .ok (.invokevirtual 187, 3) := by decide +kernel
theorem dX7_tell_126 : decode cX7_tell 126 = .ok (.aload_n 0, 1) := by decide +kernel
theorem dX7_tell_127 : decode cX7_tell 127 = .ok (.aload_n 0, 1) := by decide +kernel
theorem dX7_tell_128 : decode cX7_tell 128 = .ok (.getfield 13, 3) := by decide +kernel
theorem dX7_tell_131 : decode cX7_tell 131 = .ok (.iload_n 1, 1) := by decide +kernel
theorem dX7_tell_132 : decode cX7_tell 132 = .ok (.laload, 1) := by decide +kernel
theorem dX7_tell_133 : decode cX7_tell 133 = .ok (.bipush 16, 2) := by decide +kernel
theorem dX7_tell_135 : decode cX7_tell 135 = .ok (.lshr, 1) := by decide +kernel
theorem dX7_tell_136 : decode cX7_tell 136 = .ok (.l2i, 1) := by decide +kernel
theorem dX7_tell_137 : decode cX7_tell 137 = .ok (.invokevirtual 187, 3) := by decide +kernel
theorem dX7_tell_140 : decode cX7_tell 140 = .ok (.aload_n 0, 1) := by decide +kernel
theorem dX7_tell_141 : decode cX7_tell 141 = .ok (.aload_n 0, 1) := by decide +kernel
theorem dX7_tell_142 : decode cX7_tell 142 = .ok (.getfield 13, 3) := by decide +kernel
theorem dX7_tell_145 : decode cX7_tell 145 = .ok (.iload_n 1, 1) := by decide +kernel
theorem dX7_tell_146 : decode cX7_tell 146 = .ok (.laload, 1) := by decide +kernel
theorem dX7_tell_147 : decode cX7_tell 147 = .ok (.l2i, 1) := by decide +kernel
theorem dX7_tell_148 : decode cX7_tell 148 = .ok (.invokevirtual 187, 3) := by decide +kernel
theorem dX7_tell_151 : decode cX7_tell 151 = .ok (.aload_n 0, 1) := by decide +kernel
theorem dX7_tell_152 : decode cX7_tell 152 = .ok (.aload_n 0, 1) := by decide +kernel
theorem dX7_tell_153 : decode cX7_tell 153 = .ok (.iload_n 1, 1) := by decide +kernel
theorem dX7_tell_154 : decode cX7_tell 154 = .ok (.invokevirtual 173, 3) := by decide +kernel
theorem dX7_tell_157 : decode cX7_tell 157 = .ok (.invokevirtual 187, 3) := by decide +kernel
theorem dX7_tell_160 : decode cX7_tell 160 = .ok (.aload_n 0, 1) := by decide +kernel
theorem dX7_tell_161 : decode cX7_tell 161 = .ok (.aload_n 0, 1) := by decide +kernel
theorem dX7_tell_162 : decode cX7_tell 162 = .ok (.getfield 23, 3) := by decide +kernel
theorem dX7_tell_165 : decode cX7_tell 165 = .ok (.iload_n 1, 1) := by decide +kernel
theorem dX7_tell_166 : decode cX7_tell 166 = .ok (.iaload, 1) := by decide +kernel
theorem dX7_tell_167 : decode cX7_tell 167 = .ok (.invokevirtual 180, 3) := by decide +kernel
theorem dX7_tell_170 : decode cX7_tell 170 = .ok (.aload_n 0, 1) := by decide +kernel
theorem dX7_tell_171 : decode cX7_tell 171 = .ok (.aload_n 0, 1) := by decide +kernel
theorem dX7_tell_172 : decode cX7_tell 172 = .ok (.getfield 20, 3) := by decide +kernel
theorem dX7_tell_175 : decode cX7_tell 175 = .ok (.iload_n 1, 1) := by decide +kernel
theorem dX7_tell_176 : decode cX7_tell 176 = .ok (.iaload, 1) := by decide +kernel
theorem dX7_tell_177 : decode cX7_tell 177 = .ok (.invokevirtual 180, 3) := by decide +kernel
theorem dX7_tell_180 : decode cX7_tell 180 = .ok (.aload_n 0, 1) := by decide +kernel
theorem dX7_tell_181 : decode cX7_tell 181 = .ok (.aload_n 0, 1) := by decide +kernel
theorem dX7_tell_182 : decode cX7_tell 182 = .ok (.getfield 26, 3) := by decide +kernel
theorem dX7_tell_185 : decode cX7_tell 185 = .ok (.iload_n 1, 1) := by decide +kernel
theorem dX7_tell_186 : decode cX7_tell 186 = .ok (.iaload, 1) := by decide +kernel
theorem dX7_tell_187 : decode cX7_tell 187 = .ok (.invokevirtual 187, 3) := by decide +kernel
theorem dX7_tell_190 : decode cX7_tell 190 = .ok (.aload_n 0, 1) := by decide +kernel
theorem dX7_tell_191 : decode cX7_tell 191 = .ok (.iconst 0, 1) := by decide +kernel
theorem dX7_tell_192 : decode cX7_tell 192 = .ok (.invokevirtual 187, 3) := by decide +kernel
theorem dX7_tell_195 : decode cX7_tell 195 = .ok (.aload_n 0, 1) := by decide +kernel
theorem dX7_tell_196 : decode cX7_tell 196 = .ok (.aload_n 0, 1) := by decide +kernel
theorem dX7_tell_197 : decode cX7_tell 197 = .ok (.getfield 43, 3) := by decide +kernel
theorem dX7_tell_200 : decode cX7_tell 200 = .ok (.iload_n 1, 1) := by decide +kernel
theorem dX7_tell_201 : decode cX7_tell 201 = .ok (.iaload, 1) := by decide +kernel
theorem dX7_tell_202 : decode cX7_tell 202 = .ok (.ldc 176, 2) := by decide +kernel
theorem dX7_tell_204 : decode cX7_tell 204 = .ok (.irem, 1) := by decide +kernel
theorem dX7_tell_205 : decode cX7_tell 205 = .ok (.invokevirtual 187, 3) := by decide +kernel
theorem dX7_tell_208 : decode cX7_tell 208 = .ok (.goto 174, 3) := by decide +kernel
theorem dX7_tell_211 : decode cX7_tell 211 = .ok (.aload_n 0, 1) := by decide +kernel
theorem dX7_tell_212 : decode cX7_tell 212 = .ok (.bipush 76, 2) := by decide +kernel
theorem dX7_tell_214 : decode cX7_tell 214 = .ok (.invokevirtual 180, 3) := by decide +kernel
theorem dX7_tell_217 : decode cX7_tell 217 = .ok (.aload_n 0, 1) := by decide +kernel
theorem dX7_tell_218 : decode cX7_tell 218 = .ok (.bipush 65, 2) := by decide +kernel
theorem dX7_tell_220 : decode cX7_tell 220 = .ok (.invokevirtual 180, 3) := by decide +kernel
theorem dX7_tell_223 : decode cX7_tell 223 = .ok (.aload_n 0, 1) := by decide +kernel
theorem dX7_tell_224 : decode cX7_tell 224 = .ok (.bipush 77, 2) := by decide +kernel
theorem dX7_tell_226 : decode cX7_tell 226 = .ok (.invokevirtual 180, 3) := by decide +kernel
theorem dX7_tell_229 : decode cX7_tell 229 = .ok (.aload_n 0, 1) := by decide +kernel
theorem dX7_tell_230 : decode cX7_tell 230 = .ok (.bipush 80, 2) := by decide +kernel
theorem dX7_tell_232 : decode cX7_tell 232 = .ok (.invokevirtual 180, 3) := by decide +kernel
theorem dX7_tell_235 : decode cX7_tell 235 = .ok (.bipush 28, 2) := by decide +kernel
theorem dX7_tell_237 : decode cX7_tell 237 = .ok (.istore_n 3, 1) := by decide +kernel
theorem dX7_tell_238 : decode cX7_tell 238 = .ok (.iload_n 3, 1) := by decide +kernel
theorem dX7_tell_239 : decode cX7_tell 239 = .ok (.ifCond .lt 50, 3) := by decide +kernel
theorem dX7_tell_242 : decode cX7_tell 242 = .ok (.aload_n 0, 1) := by decide +kernel
theorem dX7_tell_243 : decode cX7_tell 243 = .ok (.getfield 13, 3) := by decide +kernel
theorem dX7_tell_246 : decode cX7_tell 246 = .ok (.iload_n 1, 1) := by decide +kernel
theorem dX7_tell_247 : decode cX7_tell 247 = .ok (.laload, 1) := by decide +kernel
theorem dX7_tell_248 : decode cX7_tell 248 = .ok (.iload_n 3, 1) := by decide +kernel
theorem dX7_tell_249 : decode cX7_tell 249 = .ok (.lshr, 1) := by decide +kernel
theorem dX7_tell_250 : decode cX7_tell 250 = .ok (.l2i, 1) := by decide +kernel
theorem dX7_tell_251 : decode cX7_tell 251 = .ok (.bipush 15, 2) := by decide +kernel
theorem dX7_tell_253 : decode cX7_tell 253 = .ok (.iand, 1) := by decide +kernel
theorem dX7_tell_254 : decode cX7_tell 254 = .ok (.istore 4, 2) := by decide +kernel
theorem dX7_tell_256 : decode cX7_tell 256 = .ok (.aload_n 0, 1) := by decide +kernel
theorem dX7_tell_257 : decode cX7_tell 257 = .ok (.iload 4, 2) := by decide +kernel
theorem dX7_tell_259 : decode cX7_tell 259 = .ok (.bipush 10, 2) := by decide +kernel
theorem dX7_tell_261 : decode cX7_tell 261 = .ok (.if_icmp .ge 11, 3) := by decide +kernel
theorem dX7_tell_264 : decode cX7_tell 264 = .ok (.bipush 48, 2) := by decide +kernel
theorem dX7_tell_266 : decode cX7_tell 266 = .ok (.iload 4, 2) := by decide +kernel
theorem dX7_tell_268 : decode cX7_tell 268 = .ok (.iadd, 1) := by decide +kernel
theorem dX7_tell_269 : decode cX7_tell 269 = .ok (.goto 11, 3) := by decide +kernel
theorem dX7_tell_272 : decode cX7_tell 272 = .ok (.bipush 65, 2) := by decide +kernel
theorem dX7_tell_274 : decode cX7_tell 274 = .ok (.iload 4, 2) := by decide +kernel
theorem dX7_tell_276 : decode cX7_tell 276 = .ok (.iadd, 1) := by decide +kernel
theorem dX7_tell_277 : decode cX7_tell 277 = .ok (.bipush 10, 2) := by decide +kernel
theorem dX7_tell_279 : decode cX7_tell 279 = .ok (.isub, 1) := by decide +kernel
theorem dX7_tell_280 : decode cX7_tell 280 = .ok (.invokevirtual 180, 3) := by decide +kernel
theorem dX7_tell_283 : decode cX7_tell 283 = .ok (.iinc 3 (-4), 3) := by decide +kernel
theorem dX7_tell_286 : decode cX7_tell 286 = .ok (.goto (-48), 3) := by decide +kernel
theorem dX7_tell_289 : decode cX7_tell 289 = .ok (.goto 93, 3) := by decide +kernel
theorem dX7_tell_292 : decode cX7_tell 292 = .ok (.iconst 0, 1) := by decide +kernel
theorem dX7_tell_293 : decode cX7_tell 293 = .ok (.istore_n 3, 1) := by decide +kernel
theorem dX7_tell_294 : decode cX7_tell 294 = .ok (.iload_n 3, 1) := by decide +kernel
theorem dX7_tell_295 : decode cX7_tell 295 = .ok (.aload_n 0, 1) := by decide +kernel
theorem dX7_tell_296 : decode cX7_tell 296 = .ok (.getfield 36, 3) := by decide +kernel
theorem dX7_tell_299 : decode cX7_tell 299 = .ok (.iload_n 1, 1) := by decide +kernel
theorem dX7_tell_300 : decode cX7_tell 300 = .ok (.iaload, 1) := by decide +kernel
theorem dX7_tell_301 : decode cX7_tell 301 = .ok (.if_icmp .ge 24, 3) := by decide +kernel
theorem dX7_tell_304 : decode cX7_tell 304 = .ok (.aload_n 0, 1) := by decide +kernel
theorem dX7_tell_305 : decode cX7_tell 305 = .ok (.aload_n 0, 1) := by decide +kernel
theorem dX7_tell_306 : decode cX7_tell 306 = .ok (.getfield 39, 3) := by decide +kernel
theorem dX7_tell_309 : decode cX7_tell 309 = .ok (.bipush 32, 2) := by decide +kernel
theorem dX7_tell_311 : decode cX7_tell 311 = .ok (.iload_n 1, 1) := by decide +kernel
theorem dX7_tell_312 : decode cX7_tell 312 = .ok (.imul, 1) := by decide +kernel
theorem dX7_tell_313 : decode cX7_tell 313 = .ok (.iload_n 3, 1) := by decide +kernel
theorem dX7_tell_314 : decode cX7_tell 314 = .ok (.iadd, 1) := by decide +kernel
theorem dX7_tell_315 : decode cX7_tell 315 = .ok (.baload, 1) := by decide +kernel
theorem dX7_tell_316 : decode cX7_tell 316 = .ok (.invokevirtual 180, 3) := by decide +kernel
theorem dX7_tell_319 : decode cX7_tell 319 = .ok (.iinc 3 1, 3) := by decide +kernel
theorem dX7_tell_322 : decode cX7_tell 322 = .ok (.goto (-28), 3) := by decide +kernel
theorem dX7_tell_325 : decode cX7_tell 325 = .ok (.goto 57, 3) := by decide +kernel
theorem dX7_tell_328 : decode cX7_tell 328 = .ok (.aload_n 0, 1) := by decide +kernel
theorem dX7_tell_329 : decode cX7_tell 329 = .ok (.aload_n 0, 1) := by decide +kernel
theorem dX7_tell_330 : decode cX7_tell 330 = .ok (.getfield 23, 3) := by decide +kernel
theorem dX7_tell_333 : decode cX7_tell 333 = .ok (.iload_n 1, 1) := by decide +kernel
theorem dX7_tell_334 : decode cX7_tell 334 = .ok (.iaload, 1) := by decide +kernel
theorem dX7_tell_335 : decode cX7_tell 335 = .ok (.invokevirtual 180, 3) := by decide +kernel
theorem dX7_tell_338 : decode cX7_tell 338 = .ok (.aload_n 0, 1) := by decide +kernel
theorem dX7_tell_339 : decode cX7_tell 339 = .ok (.aload_n 0, 1) := by decide +kernel
theorem dX7_tell_340 : decode cX7_tell 340 = .ok (.getfield 20, 3) := by decide +kernel
theorem dX7_tell_343 : decode cX7_tell 343 = .ok (.iload_n 1, 1) := by decide +kernel
theorem dX7_tell_344 : decode cX7_tell 344 = .ok (.iaload, 1) := by decide +kernel
theorem dX7_tell_345 : decode cX7_tell 345 = .ok (.invokevirtual 180, 3) := by decide +kernel
theorem dX7_tell_348 : decode cX7_tell 348 = .ok (.goto 34, 3) := by decide +kernel
theorem dX7_tell_351 : decode cX7_tell 351 = .ok (.aload_n 0, 1) := by decide +kernel
theorem dX7_tell_352 : decode cX7_tell 352 = .ok (.aload_n 0, 1) := by decide +kernel
theorem dX7_tell_353 : decode cX7_tell 353 = .ok (.getfield 26, 3) := by decide +kernel
theorem dX7_tell_356 : decode cX7_tell 356 = .ok (.iload_n 1, 1) := by decide +kernel
theorem dX7_tell_357 : decode cX7_tell 357 = .ok (.iaload, 1) := by decide +kernel
theorem dX7_tell_358 : decode cX7_tell 358 = .ok (.invokevirtual 187, 3) := by decide +kernel
theorem dX7_tell_361 : decode cX7_tell 361 = .ok (.goto 21, 3) := by decide +kernel
theorem dX7_tell_364 : decode cX7_tell 364 = .ok (.aload_n 0, 1) := by decide +kernel
theorem dX7_tell_365 : decode cX7_tell 365 = .ok (.aload_n 0, 1) := by decide +kernel
theorem dX7_tell_366 : decode cX7_tell 366 = .ok (.getfield 33, 3) := by decide +kernel
theorem dX7_tell_369 : decode cX7_tell 369 = .ok (.iload_n 1, 1) := by decide +kernel
theorem dX7_tell_370 : decode cX7_tell 370 = .ok (.baload, 1) := by decide +kernel
theorem dX7_tell_371 : decode cX7_tell 371 = .ok (.ifCond .eq 7, 3) := by decide +kernel
theorem dX7_tell_374 : decode cX7_tell 374 = .ok (.iconst 1, 1) := by decide +kernel
theorem dX7_tell_375 : decode cX7_tell 375 = .ok (.goto 4, 3) := by decide +kernel
theorem dX7_tell_378 : decode cX7_tell 378 = .ok (.iconst 0, 1) := by decide +kernel
theorem dX7_tell_379 : decode cX7_tell 379 = .ok (.invokevirtual 180, 3) := by decide +kernel
theorem dX7_tell_382 : decode cX7_tell 382 = .ok (.return_, 1) := by decide +kernel
theorem dX7_getWaiting_0 : decode cX7_getWaiting 0 = .ok (.iconst (-1), 1) := by decide +kernel
theorem dX7_getWaiting_1 : decode cX7_getWaiting 1 = .ok (.istore_n 2, 1) := by decide +kernel
theorem dX7_getWaiting_2 : decode cX7_getWaiting 2 = .ok (.aload_n 0, 1) := by decide +kernel
theorem dX7_getWaiting_3 : decode cX7_getWaiting 3 = .ok (.getfield 52, 3) := by decide +kernel
theorem dX7_getWaiting_6 : decode cX7_getWaiting 6 = .ok (.iload_n 1, 1) := by decide +kernel
theorem dX7_getWaiting_7 : decode cX7_getWaiting 7 = .ok (.iaload, 1) := by decide +kernel
theorem dX7_getWaiting_8 : decode cX7_getWaiting 8 = .ok (.iconst 1, 1) := by decide +kernel
theorem dX7_getWaiting_9 : decode cX7_getWaiting 9 = .ok (.isub, 1) := by decide +kernel
theorem dX7_getWaiting_10 : decode cX7_getWaiting 10 = .ok (.istore_n 3, 1) := by decide +kernel
theorem dX7_getWaiting_11 : decode cX7_getWaiting 11 = .ok (.iload_n 3, 1) := by decide +kernel
theorem dX7_getWaiting_12 : decode cX7_getWaiting 12 = .ok (.ifCond .lt 28, 3) := by decide +kernel
theorem dX7_getWaiting_15 : decode cX7_getWaiting 15 = .ok (.aload_n 0, 1) := by decide +kernel
theorem dX7_getWaiting_16 : decode cX7_getWaiting 16 = .ok (.getfield 55, 3) := by decide +kernel
theorem dX7_getWaiting_19 : decode cX7_getWaiting 19 = .ok (.iconst 4, 1) := by decide +kernel
theorem dX7_getWaiting_20 : decode cX7_getWaiting 20 = .ok (.iload_n 1, 1) := by decide +kernel
theorem dX7_getWaiting_21 : decode cX7_getWaiting 21 = .ok (.imul, 1) := by decide +kernel
theorem dX7_getWaiting_22 : decode cX7_getWaiting 22 = .ok (.iload_n 3, 1) := by decide +kernel
theorem dX7_getWaiting_23 : decode cX7_getWaiting 23 = .ok (.iadd, 1) := by decide +kernel
theorem dX7_getWaiting_24 : decode cX7_getWaiting 24 = .ok (.iaload, 1) := by decide +kernel
theorem dX7_getWaiting_25 : decode cX7_getWaiting 25 = .ok (.ifCond .ne 7, 3) := by decide +kernel
theorem dX7_getWaiting_28 : decode cX7_getWaiting 28 = .ok (.iload_n 3, 1) := by decide +kernel
theorem dX7_getWaiting_29 : decode cX7_getWaiting 29 = .ok (.goto 4, 3) := by decide +kernel
theorem dX7_getWaiting_32 : decode cX7_getWaiting 32 = .ok (.iload_n 2, 1) := by decide +kernel
theorem dX7_getWaiting_33 : decode cX7_getWaiting 33 = .ok (.istore_n 2, 1) := by decide +kernel
theorem dX7_getWaiting_34 : decode cX7_getWaiting 34 = .ok (.iinc 3 (-1), 3) := by decide +kernel
theorem dX7_getWaiting_37 : decode cX7_getWaiting 37 = .ok (.goto (-26), 3) := by decide +kernel
theorem dX7_getWaiting_40 : decode cX7_getWaiting 40 = .ok (.iload_n 2, 1) := by decide +kernel
theorem dX7_getWaiting_41 : decode cX7_getWaiting 41 = .ok (.iconst (-1), 1) := by decide +kernel
theorem dX7_getWaiting_42 : decode cX7_getWaiting 42 = .ok (.if_icmp .ne 19, 3) := by decide +kernel
theorem dX7_getWaiting_45 : decode cX7_getWaiting 45 = .ok (.aload_n 0, 1) := by decide +kernel
theorem dX7_getWaiting_46 : decode cX7_getWaiting 46 = .ok (.iload_n 1, 1) := by decide +kernel
theorem dX7_getWaiting_47 : decode cX7_getWaiting 47 = .ok (.iconst 0, 1) := by decide +kernel
theorem dX7_getWaiting_48 : decode cX7_getWaiting 48 = .ok (.bipush 33, 2) := by decide +kernel
theorem dX7_getWaiting_50 : decode cX7_getWaiting 50 = .ok (.bipush 32, 2) := by decide +kernel
theorem dX7_getWaiting_52 : decode cX7_getWaiting 52 = .ok (.invokevirtual 205, 3) := by decide +kernel
theorem dX7_getWaiting_55 : decode cX7_getWaiting 55 = .ok (.aload_n 0, 1) := by decide +kernel
theorem dX7_getWaiting_56 : decode cX7_getWaiting 56 = .ok (.iload_n 1, 1) := by decide +kernel
theorem dX7_getWaiting_57 : decode cX7_getWaiting 57 = .ok (.invokevirtual 209, 3) := by decide +kernel
theorem dX7_getWaiting_60 : decode cX7_getWaiting 60 = .ok (.return_, 1) := by decide +kernel
theorem dX7_getWaiting_61 : decode cX7_getWaiting 61 = .ok (.aload_n 0, 1) := by decide +kernel
theorem dX7_getWaiting_62 : decode cX7_getWaiting 62 = .ok (.getfield 52, 3) := by decide +kernel
theorem dX7_getWaiting_65 : decode cX7_getWaiting 65 = .ok (.iload_n 1, 1) := by decide +kernel
theorem dX7_getWaiting_66 : decode cX7_getWaiting 66 = .ok (.dup2, 1) := by decide +kernel
theorem dX7_getWaiting_67 : decode cX7_getWaiting 67 = .ok (.iaload, 1) := by decide +kernel
theorem dX7_getWaiting_68 : decode cX7_getWaiting 68 = .ok (.iconst 1, 1) := by decide +kernel
theorem dX7_getWaiting_69 : decode cX7_getWaiting 69 = .ok (.isub, 1) := by decide +kernel
theorem dX7_getWaiting_70 : decode cX7_getWaiting 70 = .ok (.iastore, 1) := by decide +kernel
theorem dX7_getWaiting_71 : decode cX7_getWaiting 71 = .ok (.iload_n 2, 1) := by decide +kernel
theorem dX7_getWaiting_72 : decode cX7_getWaiting 72 = .ok (.istore_n 3, 1) := by decide +kernel
theorem dX7_getWaiting_73 : decode cX7_getWaiting 73 = .ok (.iload_n 3, 1) := by decide +kernel
theorem dX7_getWaiting_74 : decode cX7_getWaiting 74 = .ok (.aload_n 0, 1) := by decide +kernel
theorem dX7_getWaiting_75 : decode cX7_getWaiting 75 = .ok (.getfield 52, 3) := by decide +kernel
theorem dX7_getWaiting_78 : decode cX7_getWaiting 78 = .ok (.iload_n 1, 1) := by decide +kernel
theorem dX7_getWaiting_79 : decode cX7_getWaiting 79 = .ok (.iaload, 1) := by decide +kernel
theorem dX7_getWaiting_80 : decode cX7_getWaiting 80 = .ok (.if_icmp .ge 93, 3) := by decide +kernel
theorem dX7_getWaiting_83 : decode cX7_getWaiting 83 = .ok (.iconst 4, 1) := by decide +kernel
theorem dX7_getWaiting_84 : decode cX7_getWaiting 84 = .ok (.iload_n 1, 1) := by decide +kernel
theorem dX7_getWaiting_85 : decode cX7_getWaiting 85 = .ok (.imul, 1) := by decide +kernel
theorem dX7_getWaiting_86 : decode cX7_getWaiting 86 = .ok (.iload_n 3, 1) := by decide +kernel
theorem dX7_getWaiting_87 : decode cX7_getWaiting 87 = .ok (.iadd, 1) := by decide +kernel
theorem dX7_getWaiting_88 : decode cX7_getWaiting 88 = .ok (.istore 4, 2) := by decide +kernel
theorem dX7_getWaiting_90 : decode cX7_getWaiting 90 = .ok (.aload_n 0, 1) := by decide +kernel
theorem dX7_getWaiting_91 : decode cX7_getWaiting 91 = .ok (.getfield 55, 3) := by decide +kernel
theorem dX7_getWaiting_94 : decode cX7_getWaiting 94 = .ok (.iload 4, 2) := by decide +kernel
theorem dX7_getWaiting_96 : decode cX7_getWaiting 96 = .ok (.aload_n 0, 1) := by decide +kernel
theorem dX7_getWaiting_97 : decode cX7_getWaiting 97 = .ok (.getfield 55, 3) := by decide +kernel
theorem dX7_getWaiting_100 : decode cX7_getWaiting 100 = .ok (.iload 4, 2) := by decide +kernel
theorem dX7_getWaiting_102 : decode cX7_getWaiting 102 = .ok (.iconst 1, 1) := by decide +kernel
theorem dX7_getWaiting_103 : decode cX7_getWaiting 103 = .ok (.iadd, 1) := by decide +kernel
theorem dX7_getWaiting_104 : decode cX7_getWaiting 104 = .ok (.iaload, 1) := by decide +kernel
theorem dX7_getWaiting_105 : decode cX7_getWaiting 105 = .ok (.iastore, 1) := by decide +kernel
theorem dX7_getWaiting_106 : decode cX7_getWaiting 106 = .ok (.aload_n 0, 1) := by decide +kernel
theorem dX7_getWaiting_107 : decode cX7_getWaiting 107 = .ok (.getfield 58, 3) := by decide +kernel
theorem dX7_getWaiting_110 : decode cX7_getWaiting 110 = .ok (.iload 4, 2) := by decide +kernel
theorem dX7_getWaiting_112 : decode cX7_getWaiting 112 = .ok (.aload_n 0, 1) := by decide +kernel
theorem dX7_getWaiting_113 : decode cX7_getWaiting 113 = .ok (.getfield 58, 3) := by decide +kernel
theorem dX7_getWaiting_116 : decode cX7_getWaiting 116 = .ok (.iload 4, 2) := by decide +kernel
theorem dX7_getWaiting_118 : decode cX7_getWaiting 118 = .ok (.iconst 1, 1) := by decide +kernel
theorem dX7_getWaiting_119 : decode cX7_getWaiting 119 = .ok (.iadd, 1) := by decide +kernel
theorem dX7_getWaiting_120 : decode cX7_getWaiting 120 = .ok (.iaload, 1) := by decide +kernel
theorem dX7_getWaiting_121 : decode cX7_getWaiting 121 = .ok (.iastore, 1) := by decide +kernel
theorem dX7_getWaiting_122 : decode cX7_getWaiting 122 = .ok (.iconst 0, 1) := by decide +kernel
theorem dX7_getWaiting_123 : decode cX7_getWaiting 123 = .ok (.istore 5, 2) := by decide +kernel
end
section
theorem dX7_getWaiting_125 : decode cX7_getWaiting 125 = .ok (.iload 5, 2) := by decide +kernel
theorem dX7_getWaiting_127 : decode cX7_getWaiting 127 = .ok (.bipush 32, 2) := by decide +kernel
theorem dX7_getWaiting_129 : decode cX7_getWaiting 129 = .ok (.if_icmp .ge 38, 3) := by decide +kernel
theorem dX7_getWaiting_132 : decode cX7_getWaiting 132 = .ok (.aload_n 0, 1) := by decide +kernel
theorem dX7_getWaiting_133 : decode cX7_getWaiting 133 = .ok (.getfield 61, 3) := by decide +kernel
theorem dX7_getWaiting_136 : decode cX7_getWaiting 136 = .ok (.bipush 32, 2) := by decide +kernel
theorem dX7_getWaiting_138 : decode cX7_getWaiting 138 = .ok (.iload 4, 2) := by decide +kernel
theorem dX7_getWaiting_140 : decode cX7_getWaiting 140 = .ok (.imul, 1) := by decide +kernel
theorem dX7_getWaiting_141 : decode cX7_getWaiting 141 = .ok (.iload 5, 2) := by decide +kernel
theorem dX7_getWaiting_143 : decode cX7_getWaiting 143 = .ok (.iadd, 1) := by decide +kernel
theorem dX7_getWaiting_144 : decode cX7_getWaiting 144 = .ok (.aload_n 0, 1) := by decide +kernel
theorem dX7_getWaiting_145 : decode cX7_getWaiting 145 = .ok (.getfield 61, 3) := by decide +kernel
theorem dX7_getWaiting_148 : decode cX7_getWaiting 148 = .ok (.bipush 32, 2) := by decide +kernel
theorem dX7_getWaiting_150 : decode cX7_getWaiting 150 = .ok (.iload 4, 2) := by decide +kernel
theorem dX7_getWaiting_152 : decode cX7_getWaiting 152 = .ok (.imul, 1) := by decide +kernel
theorem dX7_getWaiting_153 : decode cX7_getWaiting 153 = .ok (.bipush 32, 2) := by decide +kernel
theorem dX7_getWaiting_155 : decode cX7_getWaiting 155 = .ok (.iadd, 1) := by decide +kernel
theorem dX7_getWaiting_156 : decode cX7_getWaiting 156 = .ok (.iload 5, 2) := by decide +kernel
theorem dX7_getWaiting_158 : decode cX7_getWaiting 158 = .ok (.iadd, 1) := by decide +kernel
theorem dX7_getWaiting_159 : decode cX7_getWaiting 159 = .ok (.baload, 1) := by decide +kernel
theorem dX7_getWaiting_160 : decode cX7_getWaiting 160 = .ok (.bastore, 1) := by decide +kernel
theorem dX7_getWaiting_161 : decode cX7_getWaiting 161 = .ok (.iinc 5 1, 3) := by decide +kernel
theorem dX7_getWaiting_164 : decode cX7_getWaiting 164 = .ok (.goto (-39), 3) := by decide +kernel
theorem dX7_getWaiting_167 : decode cX7_getWaiting 167 = .ok (.iinc 3 1, 3) := by decide +kernel
theorem dX7_getWaiting_170 : decode cX7_getWaiting 170 = .ok (.goto (-97), 3) := by decide +kernel
theorem dX7_getWaiting_173 : decode cX7_getWaiting 173 = .ok (.aload_n 0, 1) := by decide +kernel
theorem dX7_getWaiting_174 : decode cX7_getWaiting 174 = .ok (.iload_n 1, 1) := by decide +kernel
theorem dX7_getWaiting_175 : decode cX7_getWaiting 175 = .ok (.iconst 0, 1) := by decide +kernel
theorem dX7_getWaiting_176 : decode cX7_getWaiting 176 = .ok (.bipush 49, 2) := by decide +kernel
theorem dX7_getWaiting_178 : decode cX7_getWaiting 178 = .ok (.sipush 130, 3) := by decide +kernel
theorem dX7_getWaiting_181 : decode cX7_getWaiting 181 = .ok (.invokevirtual 205, 3) := by decide +kernel
theorem dX7_getWaiting_184 : decode cX7_getWaiting 184 = .ok (.aload_n 0, 1) := by decide +kernel
theorem dX7_getWaiting_185 : decode cX7_getWaiting 185 = .ok (.iload_n 1, 1) := by decide +kernel
theorem dX7_getWaiting_186 : decode cX7_getWaiting 186 = .ok (.invokevirtual 209, 3) := by decide +kernel
theorem dX7_getWaiting_189 : decode cX7_getWaiting 189 = .ok (.return_, 1) := by decide +kernel
theorem dX7_set_0 : decode cX7_set 0 = .ok (.aload_n 0, 1) := by decide +kernel
theorem dX7_set_1 : decode cX7_set 1 = .ok (.bipush 21, 2) := by decide +kernel
theorem dX7_set_3 : decode cX7_set 3 = .ok (.invokevirtual 177, 3) := by decide +kernel
theorem dX7_set_6 : decode cX7_set 6 = .ok (.istore_n 3, 1) := by decide +kernel
theorem dX7_set_7 : decode cX7_set 7 = .ok (.aload_n 0, 1) := by decide +kernel
theorem dX7_set_8 : decode cX7_set 8 = .ok (.bipush 23, 2) := by decide +kernel
theorem dX7_set_10 : decode cX7_set 10 = .ok (.invokevirtual 123, 3) := by decide +kernel
theorem dX7_set_13 : decode cX7_set 13 = .ok (.istore 4, 2) := by decide +kernel
theorem dX7_set_15 : decode cX7_set 15 = .ok (.aload_n 0, 1) := by decide +kernel
theorem dX7_set_16 : decode cX7_set 16 = .ok (.bipush 18, 2) := by decide +kernel
theorem dX7_set_18 : decode cX7_set 18 = .ok (.invokevirtual 177, 3) := by decide +kernel
theorem dX7_set_21 : decode cX7_set 21 = .ok (.istore 5, 2) := by decide +kernel
theorem dX7_set_23 : decode cX7_set 23 = .ok (.iload 5, 2) := by decide +kernel
theorem dX7_set_25 : decode cX7_set 25 = .ok (.ifCond .eq 21, 3) := by decide +kernel
theorem dX7_set_28 : decode cX7_set 28 = .ok (.iload 5, 2) := by decide +kernel
theorem dX7_set_30 : decode cX7_set 30 = .ok (.ldc 227, 2) := by decide +kernel
theorem dX7_set_32 : decode cX7_set 32 = .ok (.if_icmp .eq 14, 3) := by decide +kernel
theorem dX7_set_35 : decode cX7_set 35 = .ok (.aload_n 0, 1) := by decide +kernel
theorem dX7_set_36 : decode cX7_set 36 = .ok (.iload_n 1, 1) := by decide +kernel
theorem dX7_set_37 : decode cX7_set 37 = .ok (.iload_n 2, 1) := by decide +kernel
theorem dX7_set_38 : decode cX7_set 38 = .ok (.bipush 9, 2) := by decide +kernel
theorem dX7_set_40 : decode cX7_set 40 = .ok (.invokevirtual 212, 3) := by decide +kernel
theorem dX7_set_43 : decode cX7_set 43 = .ok (.goto 222, 3) := by decide +kernel
theorem dX7_set_46 : decode cX7_set 46 = .ok (.iload_n 3, 1) := by decide +kernel
theorem dX7_set_47 : decode cX7_set 47 = .ok (.invokestatic 216, 3) := by decide +kernel
theorem dX7_set_50 : decode cX7_set 50 = .ok (.ifCond .ne 13, 3) := by decide +kernel
theorem dX7_set_53 : decode cX7_set 53 = .ok (.aload_n 0, 1) := by decide +kernel
theorem dX7_set_54 : decode cX7_set 54 = .ok (.iload_n 1, 1) := by decide +kernel
theorem dX7_set_55 : decode cX7_set 55 = .ok (.iload_n 2, 1) := by decide +kernel
theorem dX7_set_56 : decode cX7_set 56 = .ok (.iconst 0, 1) := by decide +kernel
theorem dX7_set_57 : decode cX7_set 57 = .ok (.invokevirtual 212, 3) := by decide +kernel
theorem dX7_set_60 : decode cX7_set 60 = .ok (.goto 205, 3) := by decide +kernel
theorem dX7_set_63 : decode cX7_set 63 = .ok (.iload_n 3, 1) := by decide +kernel
theorem dX7_set_64 : decode cX7_set 64 = .ok (.bipush 80, 2) := by decide +kernel
theorem dX7_set_66 : decode cX7_set 66 = .ok (.if_icmp .eq 22, 3) := by decide +kernel
theorem dX7_set_69 : decode cX7_set 69 = .ok (.iload_n 3, 1) := by decide +kernel
theorem dX7_set_70 : decode cX7_set 70 = .ok (.bipush 96, 2) := by decide +kernel
theorem dX7_set_72 : decode cX7_set 72 = .ok (.if_icmp .eq 16, 3) := by decide +kernel
theorem dX7_set_75 : decode cX7_set 75 = .ok (.iload_n 3, 1) := by decide +kernel
theorem dX7_set_76 : decode cX7_set 76 = .ok (.sipush 128, 3) := by decide +kernel
theorem dX7_set_79 : decode cX7_set 79 = .ok (.if_icmp .eq 9, 3) := by decide +kernel
theorem dX7_set_82 : decode cX7_set 82 = .ok (.iload_n 3, 1) := by decide +kernel
theorem dX7_set_83 : decode cX7_set 83 = .ok (.bipush 32, 2) := by decide +kernel
theorem dX7_set_85 : decode cX7_set 85 = .ok (.if_icmp .ne 13, 3) := by decide +kernel
theorem dX7_set_88 : decode cX7_set 88 = .ok (.aload_n 0, 1) := by decide +kernel
theorem dX7_set_89 : decode cX7_set 89 = .ok (.iload_n 1, 1) := by decide +kernel
theorem dX7_set_90 : decode cX7_set 90 = .ok (.iload_n 2, 1) := by decide +kernel
theorem dX7_set_91 : decode cX7_set 91 = .ok (.iconst 5, 1) := by decide +kernel
theorem dX7_set_92 : decode cX7_set 92 = .ok (.invokevirtual 212, 3) := by decide +kernel
theorem dX7_set_95 : decode cX7_set 95 = .ok (.goto 170, 3) := by decide +kernel
theorem dX7_set_98 : decode cX7_set 98 = .ok (.iload_n 3, 1) := by decide +kernel
theorem dX7_set_99 : decode cX7_set 99 = .ok (.sipush 130, 3) := by decide +kernel
theorem dX7_set_102 : decode cX7_set 102 = .ok (.if_icmp .ne 13, 3) := by decide +kernel
theorem dX7_set_105 : decode cX7_set 105 = .ok (.iload 4, 2) := by decide +kernel
theorem dX7_set_107 : decode cX7_set 107 = .ok (.bipush 32, 2) := by decide +kernel
theorem dX7_set_109 : decode cX7_set 109 = .ok (.if_icmp .le 33, 3) := by decide +kernel
theorem dX7_set_112 : decode cX7_set 112 = .ok (.goto 20, 3) := by decide +kernel
theorem dX7_set_115 : decode cX7_set 115 = .ok (.iload 4, 2) := by decide +kernel
theorem dX7_set_117 : decode cX7_set 117 = .ok (.iload_n 3, 1) := by decide +kernel
theorem dX7_set_118 : decode cX7_set 118 = .ok (.sipush 240, 3) := by decide +kernel
theorem dX7_set_121 : decode cX7_set 121 = .ok (.if_icmp .ne 7, 3) := by decide +kernel
theorem dX7_set_124 : decode cX7_set 124 = .ok (.iconst 2, 1) := by decide +kernel
theorem dX7_set_125 : decode cX7_set 125 = .ok (.goto 4, 3) := by decide +kernel
theorem dX7_set_128 : decode cX7_set 128 = .ok (.iconst 1, 1) := by decide +kernel
theorem dX7_set_129 : decode cX7_set 129 = .ok (.if_icmp .eq 13, 3) := by decide +kernel
theorem dX7_set_132 : decode cX7_set 132 = .ok (.aload_n 0, 1) := by decide +kernel
theorem dX7_set_133 : decode cX7_set 133 = .ok (.iload_n 1, 1) := by decide +kernel
theorem dX7_set_134 : decode cX7_set 134 = .ok (.iload_n 2, 1) := by decide +kernel
theorem dX7_set_135 : decode cX7_set 135 = .ok (.iconst 1, 1) := by decide +kernel
theorem dX7_set_136 : decode cX7_set 136 = .ok (.invokevirtual 212, 3) := by decide +kernel
theorem dX7_set_139 : decode cX7_set 139 = .ok (.goto 126, 3) := by decide +kernel
theorem dX7_set_142 : decode cX7_set 142 = .ok (.aload_n 0, 1) := by decide +kernel
theorem dX7_set_143 : decode cX7_set 143 = .ok (.iload_n 1, 1) := by decide +kernel
theorem dX7_set_144 : decode cX7_set 144 = .ok (.iload_n 3, 1) := by decide +kernel
theorem dX7_set_145 : decode cX7_set 145 = .ok (.iload 4, 2) := by decide +kernel
theorem dX7_set_147 : decode cX7_set 147 = .ok (.invokevirtual 228, 3) := by decide +kernel
theorem dX7_set_150 : decode cX7_set 150 = .ok (.ifCond .ne 14, 3) := by decide +kernel
theorem dX7_set_153 : decode cX7_set 153 = .ok (.aload_n 0, 1) := by decide +kernel
theorem dX7_set_154 : decode cX7_set 154 = .ok (.iload_n 1, 1) := by decide +kernel
theorem dX7_set_155 : decode cX7_set 155 = .ok (.iload_n 2, 1) := by decide +kernel
theorem dX7_set_156 : decode cX7_set 156 = .ok (.bipush 6, 2) := by decide +kernel
theorem dX7_set_158 : decode cX7_set 158 = .ok (.invokevirtual 212, 3) := by decide +kernel
theorem dX7_set_161 : decode cX7_set 161 = .ok (.goto 104, 3) := by decide +kernel
theorem dX7_set_164 : decode cX7_set 164 = .ok (.iload_n 3, 1) := by decide +kernel
theorem dX7_set_165 : decode cX7_set 165 = .ok (.sipush 130, 3) := by decide +kernel
theorem dX7_set_168 : decode cX7_set 168 = .ok (.if_icmp .ne 14, 3) := by decide +kernel
theorem dX7_set_171 : decode cX7_set 171 = .ok (.aload_n 0, 1) := by decide +kernel
theorem dX7_set_172 : decode cX7_set 172 = .ok (.iload_n 1, 1) := by decide +kernel
theorem dX7_set_173 : decode cX7_set 173 = .ok (.iload_n 2, 1) := by decide +kernel
theorem dX7_set_174 : decode cX7_set 174 = .ok (.iload 4, 2) := by decide +kernel
theorem dX7_set_176 : decode cX7_set 176 = .ok (.invokevirtual 232, 3) := by decide +kernel
theorem dX7_set_179 : decode cX7_set 179 = .ok (.goto 86, 3) := by decide +kernel
theorem dX7_set_182 : decode cX7_set 182 = .ok (.iload_n 3, 1) := by decide +kernel
theorem dX7_set_183 : decode cX7_set 183 = .ok (.sipush 224, 3) := by decide +kernel
theorem dX7_set_186 : decode cX7_set 186 = .ok (.if_icmp .ne 18, 3) := by decide +kernel
theorem dX7_set_189 : decode cX7_set 189 = .ok (.aload_n 0, 1) := by decide +kernel
theorem dX7_set_190 : decode cX7_set 190 = .ok (.getfield 23, 3) := by decide +kernel
theorem dX7_set_193 : decode cX7_set 193 = .ok (.iload_n 1, 1) := by decide +kernel
theorem dX7_set_194 : decode cX7_set 194 = .ok (.aload_n 0, 1) := by decide +kernel
theorem dX7_set_195 : decode cX7_set 195 = .ok (.bipush 24, 2) := by decide +kernel
theorem dX7_set_197 : decode cX7_set 197 = .ok (.invokevirtual 123, 3) := by decide +kernel
theorem dX7_set_200 : decode cX7_set 200 = .ok (.iastore, 1) := by decide +kernel
theorem dX7_set_201 : decode cX7_set 201 = .ok (.goto 46, 3) := by decide +kernel
theorem dX7_set_204 : decode cX7_set 204 = .ok (.iload_n 3, 1) := by decide +kernel
theorem dX7_set_205 : decode cX7_set 205 = .ok (.sipush 240, 3) := by decide +kernel
theorem dX7_set_208 : decode cX7_set 208 = .ok (.if_icmp .ne 18, 3) := by decide +kernel
theorem dX7_set_211 : decode cX7_set 211 = .ok (.aload_n 0, 1) := by decide +kernel
theorem dX7_set_212 : decode cX7_set 212 = .ok (.getfield 26, 3) := by decide +kernel
theorem dX7_set_215 : decode cX7_set 215 = .ok (.iload_n 1, 1) := by decide +kernel
theorem dX7_set_216 : decode cX7_set 216 = .ok (.aload_n 0, 1) := by decide +kernel
theorem dX7_set_217 : decode cX7_set 217 = .ok (.bipush 24, 2) := by decide +kernel
theorem dX7_set_219 : decode cX7_set 219 = .ok (.invokevirtual 177, 3) := by decide +kernel
theorem dX7_set_222 : decode cX7_set 222 = .ok (.iastore, 1) := by decide +kernel
theorem dX7_set_223 : decode cX7_set 223 = .ok (.goto 24, 3) := by decide +kernel
theorem dX7_set_226 : decode cX7_set 226 = .ok (.aload_n 0, 1) := by decide +kernel
theorem dX7_set_227 : decode cX7_set 227 = .ok (.getfield 33, 3) := by decide +kernel
theorem dX7_set_230 : decode cX7_set 230 = .ok (.iload_n 1, 1) := by decide +kernel
theorem dX7_set_231 : decode cX7_set 231 = .ok (.aload_n 0, 1) := by decide +kernel
theorem dX7_set_232 : decode cX7_set 232 = .ok (.bipush 24, 2) := by decide +kernel
theorem dX7_set_234 : decode cX7_set 234 = .ok (.invokevirtual 123, 3) := by decide +kernel
theorem dX7_set_237 : decode cX7_set 237 = .ok (.iconst 1, 1) := by decide +kernel
theorem dX7_set_238 : decode cX7_set 238 = .ok (.if_icmp .ne 7, 3) := by decide +kernel
theorem dX7_set_241 : decode cX7_set 241 = .ok (.iconst 1, 1) := by decide +kernel
theorem dX7_set_242 : decode cX7_set 242 = .ok (.goto 4, 3) := by decide +kernel
theorem dX7_set_245 : decode cX7_set 245 = .ok (.iconst 0, 1) := by decide +kernel
theorem dX7_set_246 : decode cX7_set 246 = .ok (.bastore, 1) := by decide +kernel
theorem dX7_set_247 : decode cX7_set 247 = .ok (.iload_n 2, 1) := by decide +kernel
theorem dX7_set_248 : decode cX7_set 248 = .ok (.ifCond .eq 17, 3) := by decide +kernel
theorem dX7_set_251 : decode cX7_set 251 = .ok (.aload_n 0, 1) := by decide +kernel
theorem dX7_set_252 : decode cX7_set 252 = .ok (.iload_n 1, 1) := by decide +kernel
theorem dX7_set_253 : decode cX7_set 253 = .ok (.iconst 0, 1) := by decide +kernel
theorem dX7_set_254 : decode cX7_set 254 = .ok (.bipush 49, 2) := by decide +kernel
theorem dX7_set_256 : decode cX7_set 256 = .ok (.iload_n 3, 1) := by decide +kernel
theorem dX7_set_257 : decode cX7_set 257 = .ok (.invokevirtual 205, 3) := by decide +kernel
theorem dX7_set_260 : decode cX7_set 260 = .ok (.aload_n 0, 1) := by decide +kernel
theorem dX7_set_261 : decode cX7_set 261 = .ok (.iload_n 1, 1) := by decide +kernel
theorem dX7_set_262 : decode cX7_set 262 = .ok (.invokevirtual 209, 3) := by decide +kernel
theorem dX7_set_265 : decode cX7_set 265 = .ok (.return_, 1) := by decide +kernel
theorem dX7_mayBe_0 : decode cX7_mayBe 0 = .ok (.iload_n 2, 1) := by decide +kernel
theorem dX7_mayBe_1 : decode cX7_mayBe 1 = .ok (.sipush 130, 3) := by decide +kernel
theorem dX7_mayBe_4 : decode cX7_mayBe 4 = .ok (.if_icmp .ne 58, 3) := by decide +kernel
theorem dX7_mayBe_7 : decode cX7_mayBe 7 = .ok (.iconst 1, 1) := by decide +kernel
theorem dX7_mayBe_8 : decode cX7_mayBe 8 = .ok (.istore 4, 2) := by decide +kernel
theorem dX7_mayBe_10 : decode cX7_mayBe 10 = .ok (.iconst 0, 1) := by decide +kernel
theorem dX7_mayBe_11 : decode cX7_mayBe 11 = .ok (.istore 5, 2) := by decide +kernel
theorem dX7_mayBe_13 : decode cX7_mayBe 13 = .ok (.iload 5, 2) := by decide +kernel
theorem dX7_mayBe_15 : decode cX7_mayBe 15 = .ok (.iload_n 3, 1) := by decide +kernel
theorem dX7_mayBe_16 : decode cX7_mayBe 16 = .ok (.if_icmp .ge 43, 3) := by decide +kernel
theorem dX7_mayBe_19 : decode cX7_mayBe 19 = .ok (.iload 4, 2) := by decide +kernel
theorem dX7_mayBe_21 : decode cX7_mayBe 21 = .ok (.ifCond .eq 29, 3) := by decide +kernel
theorem dX7_mayBe_24 : decode cX7_mayBe 24 = .ok (.aload_n 0, 1) := by decide +kernel
theorem dX7_mayBe_25 : decode cX7_mayBe 25 = .ok (.bipush 24, 2) := by decide +kernel
theorem dX7_mayBe_27 : decode cX7_mayBe 27 = .ok (.iload 5, 2) := by decide +kernel
theorem dX7_mayBe_29 : decode cX7_mayBe 29 = .ok (.iadd, 1) := by decide +kernel
theorem dX7_mayBe_30 : decode cX7_mayBe 30 = .ok (.invokevirtual 123, 3) := by decide +kernel
theorem dX7_mayBe_33 : decode cX7_mayBe 33 = .ok (.i2l, 1) := by decide +kernel
theorem dX7_mayBe_34 : decode cX7_mayBe 34 = .ok (.ldc2_w 235, 3) := by decide +kernel
theorem dX7_mayBe_37 : decode cX7_mayBe 37 = .ok (.ldc2_w 237, 3) := by decide +kernel
theorem dX7_mayBe_40 : decode cX7_mayBe 40 = .ok (.invokestatic 101, 3) := by decide +kernel
theorem dX7_mayBe_43 : decode cX7_mayBe 43 = .ok (.ifCond .eq 7, 3) := by decide +kernel
theorem dX7_mayBe_46 : decode cX7_mayBe 46 = .ok (.iconst 1, 1) := by decide +kernel
theorem dX7_mayBe_47 : decode cX7_mayBe 47 = .ok (.goto 4, 3) := by decide +kernel
theorem dX7_mayBe_50 : decode cX7_mayBe 50 = .ok (.iconst 0, 1) := by decide +kernel
theorem dX7_mayBe_51 : decode cX7_mayBe 51 = .ok (.istore 4, 2) := by decide +kernel
theorem dX7_mayBe_53 : decode cX7_mayBe 53 = .ok (.iinc 5 1, 3) := by decide +kernel
theorem dX7_mayBe_56 : decode cX7_mayBe 56 = .ok (.goto (-43), 3) := by decide +kernel
theorem dX7_mayBe_59 : decode cX7_mayBe 59 = .ok (.iload 4, 2) := by decide +kernel
theorem dX7_mayBe_61 : decode cX7_mayBe 61 = .ok (.ireturn, 1) := by decide +kernel
theorem dX7_mayBe_62 : decode cX7_mayBe 62 = .ok (.iload_n 2, 1) := by decide +kernel
theorem dX7_mayBe_63 : decode cX7_mayBe 63 = .ok (.sipush 224, 3) := by decide +kernel
theorem dX7_mayBe_66 : decode cX7_mayBe 66 = .ok (.if_icmp .ne 56, 3) := by decide +kernel
theorem dX7_mayBe_69 : decode cX7_mayBe 69 = .ok (.aload_n 0, 1) := by decide +kernel
theorem dX7_mayBe_70 : decode cX7_mayBe 70 = .ok (.bipush 24, 2) := by decide +kernel
theorem dX7_mayBe_72 : decode cX7_mayBe 72 = .ok (.invokevirtual 123, 3) := by decide +kernel
theorem dX7_mayBe_75 : decode cX7_mayBe 75 = .ok (.i2l, 1) := by decide +kernel
theorem dX7_mayBe_76 : decode cX7_mayBe 76 = .ok (.lconst 1, 1) := by decide +kernel
theorem dX7_mayBe_77 : decode cX7_mayBe 77 = .ok (.aload_n 0, 1) := by decide +kernel
theorem dX7_mayBe_78 : decode cX7_mayBe 78 = .ok (.getfield 20, 3) := by decide +kernel
theorem dX7_mayBe_81 : decode cX7_mayBe 81 = .ok (.iload_n 1, 1) := by decide +kernel
theorem dX7_mayBe_82 : decode cX7_mayBe 82 = .ok (.iaload, 1) := by decide +kernel
theorem dX7_mayBe_83 : decode cX7_mayBe 83 = .ok (.i2l, 1) := by decide +kernel
theorem dX7_mayBe_84 : decode cX7_mayBe 84 = .ok (.invokestatic 101, 3) := by decide +kernel
theorem dX7_mayBe_87 : decode cX7_mayBe 87 = .ok (.ifCond .eq 33, 3) := by decide +kernel
theorem dX7_mayBe_90 : decode cX7_mayBe 90 = .ok (.aload_n 0, 1) := by decide +kernel
theorem dX7_mayBe_91 : decode cX7_mayBe 91 = .ok (.getfield 26, 3) := by decide +kernel
theorem dX7_mayBe_94 : decode cX7_mayBe 94 = .ok (.iload_n 1, 1) := by decide +kernel
theorem dX7_mayBe_95 : decode cX7_mayBe 95 = .ok (.iaload, 1) := by decide +kernel
theorem dX7_mayBe_96 : decode cX7_mayBe 96 = .ok (.aload_n 0, 1) := by decide +kernel
theorem dX7_mayBe_97 : decode cX7_mayBe 97 = .ok (.getfield 17, 3) := by decide +kernel
theorem dX7_mayBe_100 : decode cX7_mayBe 100 = .ok (.iload_n 1, 1) := by decide +kernel
theorem dX7_mayBe_101 : decode cX7_mayBe 101 = .ok (.iaload, 1) := by decide +kernel
theorem dX7_mayBe_102 : decode cX7_mayBe 102 = .ok (.aload_n 0, 1) := by decide +kernel
theorem dX7_mayBe_103 : decode cX7_mayBe 103 = .ok (.bipush 24, 2) := by decide +kernel
theorem dX7_mayBe_105 : decode cX7_mayBe 105 = .ok (.invokevirtual 123, 3) := by decide +kernel
theorem dX7_mayBe_108 : decode cX7_mayBe 108 = .ok (.imul, 1) := by decide +kernel
theorem dX7_mayBe_109 : decode cX7_mayBe 109 = .ok (.iadd, 1) := by decide +kernel
theorem dX7_mayBe_110 : decode cX7_mayBe 110 = .ok (.sipush 513, 3) := by decide +kernel
theorem dX7_mayBe_113 : decode cX7_mayBe 113 = .ok (.if_icmp .gt 7, 3) := by decide +kernel
theorem dX7_mayBe_116 : decode cX7_mayBe 116 = .ok (.iconst 1, 1) := by decide +kernel
theorem dX7_mayBe_117 : decode cX7_mayBe 117 = .ok (.goto 4, 3) := by decide +kernel
theorem dX7_mayBe_120 : decode cX7_mayBe 120 = .ok (.iconst 0, 1) := by decide +kernel
theorem dX7_mayBe_121 : decode cX7_mayBe 121 = .ok (.ireturn, 1) := by decide +kernel
theorem dX7_mayBe_122 : decode cX7_mayBe 122 = .ok (.iload_n 2, 1) := by decide +kernel
theorem dX7_mayBe_123 : decode cX7_mayBe 123 = .ok (.sipush 240, 3) := by decide +kernel
theorem dX7_mayBe_126 : decode cX7_mayBe 126 = .ok (.if_icmp .ne 46, 3) := by decide +kernel
theorem dX7_mayBe_129 : decode cX7_mayBe 129 = .ok (.aload_n 0, 1) := by decide +kernel
theorem dX7_mayBe_130 : decode cX7_mayBe 130 = .ok (.bipush 24, 2) := by decide +kernel
theorem dX7_mayBe_132 : decode cX7_mayBe 132 = .ok (.invokevirtual 177, 3) := by decide +kernel
theorem dX7_mayBe_135 : decode cX7_mayBe 135 = .ok (.i2l, 1) := by decide +kernel
theorem dX7_mayBe_136 : decode cX7_mayBe 136 = .ok (.lconst 1, 1) := by decide +kernel
theorem dX7_mayBe_137 : decode cX7_mayBe 137 = .ok (.ldc2_w 111, 3) := by decide +kernel
theorem dX7_mayBe_140 : decode cX7_mayBe 140 = .ok (.invokestatic 101, 3) := by decide +kernel
theorem dX7_mayBe_143 : decode cX7_mayBe 143 = .ok (.ifCond .eq 25, 3) := by decide +kernel
theorem dX7_mayBe_146 : decode cX7_mayBe 146 = .ok (.aload_n 0, 1) := by decide +kernel
theorem dX7_mayBe_147 : decode cX7_mayBe 147 = .ok (.bipush 24, 2) := by decide +kernel
theorem dX7_mayBe_149 : decode cX7_mayBe 149 = .ok (.invokevirtual 177, 3) := by decide +kernel
theorem dX7_mayBe_152 : decode cX7_mayBe 152 = .ok (.aload_n 0, 1) := by decide +kernel
theorem dX7_mayBe_153 : decode cX7_mayBe 153 = .ok (.iload_n 1, 1) := by decide +kernel
theorem dX7_mayBe_154 : decode cX7_mayBe 154 = .ok (.invokevirtual 173, 3) := by decide +kernel
theorem dX7_mayBe_157 : decode cX7_mayBe 157 = .ok (.iadd, 1) := by decide +kernel
theorem dX7_mayBe_158 : decode cX7_mayBe 158 = .ok (.sipush 513, 3) := by decide +kernel
theorem dX7_mayBe_161 : decode cX7_mayBe 161 = .ok (.if_icmp .gt 7, 3) := by decide +kernel
theorem dX7_mayBe_164 : decode cX7_mayBe 164 = .ok (.iconst 1, 1) := by decide +kernel
theorem dX7_mayBe_165 : decode cX7_mayBe 165 = .ok (.goto 22, 3) := by decide +kernel
theorem dX7_mayBe_168 : decode cX7_mayBe 168 = .ok (.iconst 0, 1) := by decide +kernel
theorem dX7_mayBe_169 : decode cX7_mayBe 169 = .ok (.goto 18, 3) := by decide +kernel
theorem dX7_mayBe_172 : decode cX7_mayBe 172 = .ok (.aload_n 0, 1) := by decide +kernel
theorem dX7_mayBe_173 : decode cX7_mayBe 173 = .ok (.bipush 24, 2) := by decide +kernel
theorem dX7_mayBe_175 : decode cX7_mayBe 175 = .ok (.invokevirtual 123, 3) := by decide +kernel
theorem dX7_mayBe_178 : decode cX7_mayBe 178 = .ok (.iconst 2, 1) := by decide +kernel
theorem dX7_mayBe_179 : decode cX7_mayBe 179 = .ok (.if_icmp .ge 7, 3) := by decide +kernel
theorem dX7_mayBe_182 : decode cX7_mayBe 182 = .ok (.iconst 1, 1) := by decide +kernel
theorem dX7_mayBe_183 : decode cX7_mayBe 183 = .ok (.goto 4, 3) := by decide +kernel
theorem dX7_mayBe_186 : decode cX7_mayBe 186 = .ok (.iconst 0, 1) := by decide +kernel
theorem dX7_mayBe_187 : decode cX7_mayBe 187 = .ok (.ireturn, 1) := by decide +kernel
theorem dX7_setLabel_0 : decode cX7_setLabel 0 = .ok (.iload_n 2, 1) := by decide +kernel
theorem dX7_setLabel_1 : decode cX7_setLabel 1 = .ok (.ifCond .ne 48, 3) := by decide +kernel
theorem dX7_setLabel_4 : decode cX7_setLabel 4 = .ok (.aload_n 0, 1) := by decide +kernel
theorem dX7_setLabel_5 : decode cX7_setLabel 5 = .ok (.getfield 36, 3) := by decide +kernel
theorem dX7_setLabel_8 : decode cX7_setLabel 8 = .ok (.iload_n 1, 1) := by decide +kernel
theorem dX7_setLabel_9 : decode cX7_setLabel 9 = .ok (.iload_n 3, 1) := by decide +kernel
theorem dX7_setLabel_10 : decode cX7_setLabel 10 = .ok (.iastore, 1) := by decide +kernel
theorem dX7_setLabel_11 : decode cX7_setLabel 11 = .ok (.iconst 0, 1) := by decide +kernel
theorem dX7_setLabel_12 : decode cX7_setLabel 12 = .ok (.istore 4, 2) := by decide +kernel
theorem dX7_setLabel_14 : decode cX7_setLabel 14 = .ok (.iload 4, 2) := by decide +kernel
theorem dX7_setLabel_16 : decode cX7_setLabel 16 = .ok (.iload_n 3, 1) := by decide +kernel
theorem dX7_setLabel_17 : decode cX7_setLabel 17 = .ok (.if_icmp .ge 31, 3) := by decide +kernel
theorem dX7_setLabel_20 : decode cX7_setLabel 20 = .ok (.aload_n 0, 1) := by decide +kernel
theorem dX7_setLabel_21 : decode cX7_setLabel 21 = .ok (.getfield 39, 3) := by decide +kernel
theorem dX7_setLabel_24 : decode cX7_setLabel 24 = .ok (.bipush 32, 2) := by decide +kernel
theorem dX7_setLabel_26 : decode cX7_setLabel 26 = .ok (.iload_n 1, 1) := by decide +kernel
theorem dX7_setLabel_27 : decode cX7_setLabel 27 = .ok (.imul, 1) := by decide +kernel
theorem dX7_setLabel_28 : decode cX7_setLabel 28 = .ok (.iload 4, 2) := by decide +kernel
theorem dX7_setLabel_30 : decode cX7_setLabel 30 = .ok (.iadd, 1) := by decide +kernel
theorem dX7_setLabel_31 : decode cX7_setLabel 31 = .ok (.aload_n 0, 1) := by decide +kernel
theorem dX7_setLabel_32 : decode cX7_setLabel 32 = .ok (.getfield 67, 3) := by decide +kernel
theorem dX7_setLabel_35 : decode cX7_setLabel 35 = .ok (.bipush 24, 2) := by decide +kernel
theorem dX7_setLabel_37 : decode cX7_setLabel 37 = .ok (.iload 4, 2) := by decide +kernel
theorem dX7_setLabel_39 : decode cX7_setLabel 39 = .ok (.iadd, 1) := by decide +kernel
theorem dX7_setLabel_40 : decode cX7_setLabel 40 = .ok (.baload, 1) := by decide +kernel
theorem dX7_setLabel_41 : decode cX7_setLabel 41 = .ok (.bastore, 1) := by decide +kernel
theorem dX7_setLabel_42 : decode cX7_setLabel 42 = .ok (.iinc 4 1, 3) := by decide +kernel
theorem dX7_setLabel_45 : decode cX7_setLabel 45 = .ok (.goto (-31), 3) := by decide +kernel
theorem dX7_setLabel_48 : decode cX7_setLabel 48 = .ok (.return_, 1) := by decide +kernel
theorem dX7_setLabel_49 : decode cX7_setLabel 49 = .ok (.aload_n 0, 1) := by decide +kernel
theorem dX7_setLabel_50 : decode cX7_setLabel 50 = .ok (.getfield 52, 3) := by decide +kernel
theorem dX7_setLabel_53 : decode cX7_setLabel 53 = .ok (.iload_n 1, 1) := by decide +kernel
theorem dX7_setLabel_54 : decode cX7_setLabel 54 = .ok (.iaload, 1) := by decide +kernel
theorem dX7_setLabel_55 : decode cX7_setLabel 55 = .ok (.iconst 4, 1) := by decide +kernel
theorem dX7_setLabel_56 : decode cX7_setLabel 56 = .ok (.if_icmp .ne 12, 3) := by decide +kernel
theorem dX7_setLabel_59 : decode cX7_setLabel 59 = .ok (.aload_n 0, 1) := by decide +kernel
theorem dX7_setLabel_60 : decode cX7_setLabel 60 = .ok (.iload_n 1, 1) := by decide +kernel
theorem dX7_setLabel_61 : decode cX7_setLabel 61 = .ok (.iconst 1, 1) := by decide +kernel
theorem dX7_setLabel_62 : decode cX7_setLabel 62 = .ok (.bipush 7, 2) := by decide +kernel
theorem dX7_setLabel_64 : decode cX7_setLabel 64 = .ok (.invokevirtual 212, 3) := by decide +kernel
theorem dX7_setLabel_67 : decode cX7_setLabel 67 = .ok (.return_, 1) := by decide +kernel
theorem dX7_setLabel_68 : decode cX7_setLabel 68 = .ok (.iconst 4, 1) := by decide +kernel
theorem dX7_setLabel_69 : decode cX7_setLabel 69 = .ok (.iload_n 1, 1) := by decide +kernel
theorem dX7_setLabel_70 : decode cX7_setLabel 70 = .ok (.imul, 1) := by decide +kernel
theorem dX7_setLabel_71 : decode cX7_setLabel 71 = .ok (.aload_n 0, 1) := by decide +kernel
theorem dX7_setLabel_72 : decode cX7_setLabel 72 = .ok (.getfield 52, 3) := by decide +kernel
theorem dX7_setLabel_75 : decode cX7_setLabel 75 = .ok (.iload_n 1, 1) := by decide +kernel
theorem dX7_setLabel_76 : decode cX7_setLabel 76 = .ok (.iaload, 1) := by decide +kernel
theorem dX7_setLabel_77 : decode cX7_setLabel 77 = .ok (.iadd, 1) := by decide +kernel
theorem dX7_setLabel_78 : decode cX7_setLabel 78 = .ok (.istore 4, 2) := by decide +kernel
theorem dX7_setLabel_80 : decode cX7_setLabel 80 = .ok (.aload_n 0, 1) := by decide +kernel
theorem dX7_setLabel_81 : decode cX7_setLabel 81 = .ok (.getfield 52, 3) := by decide +kernel
theorem dX7_setLabel_84 : decode cX7_setLabel 84 = .ok (.iload_n 1, 1) := by decide +kernel
theorem dX7_setLabel_85 : decode cX7_setLabel 85 = .ok (.dup2, 1) := by decide +kernel
theorem dX7_setLabel_86 : decode cX7_setLabel 86 = .ok (.iaload, 1) := by decide +kernel
theorem dX7_setLabel_87 : decode cX7_setLabel 87 = .ok (.iconst 1, 1) := by decide +kernel
theorem dX7_setLabel_88 : decode cX7_setLabel 88 = .ok (.iadd, 1) := by decide +kernel
theorem dX7_setLabel_89 : decode cX7_setLabel 89 = .ok (.iastore, 1) := by decide +kernel
theorem dX7_setLabel_90 : decode cX7_setLabel 90 = .ok (.aload_n 0, 1) := by decide +kernel
theorem dX7_setLabel_91 : decode cX7_setLabel 91 = .ok (.getfield 55, 3) := by decide +kernel
theorem dX7_setLabel_94 : decode cX7_setLabel 94 = .ok (.iload 4, 2) := by decide +kernel
theorem dX7_setLabel_96 : decode cX7_setLabel 96 = .ok (.aload_n 0, 1) := by decide +kernel
theorem dX7_setLabel_97 : decode cX7_setLabel 97 = .ok (.getfield 129, 3) := by decide +kernel
theorem dX7_setLabel_100 : decode cX7_setLabel 100 = .ok (.iconst 3, 1) := by decide +kernel
theorem dX7_setLabel_101 : decode cX7_setLabel 101 = .ok (.iadd, 1) := by decide +kernel
theorem dX7_setLabel_102 : decode cX7_setLabel 102 = .ok (.iastore, 1) := by decide +kernel
theorem dX7_setLabel_103 : decode cX7_setLabel 103 = .ok (.aload_n 0, 1) := by decide +kernel
theorem dX7_setLabel_104 : decode cX7_setLabel 104 = .ok (.getfield 58, 3) := by decide +kernel
theorem dX7_setLabel_107 : decode cX7_setLabel 107 = .ok (.iload 4, 2) := by decide +kernel
theorem dX7_setLabel_109 : decode cX7_setLabel 109 = .ok (.iload_n 3, 1) := by decide +kernel
theorem dX7_setLabel_110 : decode cX7_setLabel 110 = .ok (.iastore, 1) := by decide +kernel
theorem dX7_setLabel_111 : decode cX7_setLabel 111 = .ok (.iconst 0, 1) := by decide +kernel
theorem dX7_setLabel_112 : decode cX7_setLabel 112 = .ok (.istore 5, 2) := by decide +kernel
theorem dX7_setLabel_114 : decode cX7_setLabel 114 = .ok (.iload 5, 2) := by decide +kernel
theorem dX7_setLabel_116 : decode cX7_setLabel 116 = .ok (.iload_n 3, 1) := by decide +kernel
theorem dX7_setLabel_117 : decode cX7_setLabel 117 = .ok (.if_icmp .ge 32, 3) := by decide +kernel
theorem dX7_setLabel_120 : decode cX7_setLabel 120 = .ok (.aload_n 0, 1) := by decide +kernel
theorem dX7_setLabel_121 : decode cX7_setLabel 121 = .ok (.getfield 61, 3) := by decide +kernel
theorem dX7_setLabel_124 : decode cX7_setLabel 124 = .ok (.bipush 32, 2) := by decide +kernel
theorem dX7_setLabel_126 : decode cX7_setLabel 126 = .ok (.iload 4, 2) := by decide +kernel
theorem dX7_setLabel_128 : decode cX7_setLabel 128 = .ok (.imul, 1) := by decide +kernel
theorem dX7_setLabel_129 : decode cX7_setLabel 129 = .ok (.iload 5, 2) := by decide +kernel
theorem dX7_setLabel_131 : decode cX7_setLabel 131 = .ok (.iadd, 1) := by decide +kernel
theorem dX7_setLabel_132 : decode cX7_setLabel 132 = .ok (.aload_n 0, 1) := by decide +kernel
theorem dX7_setLabel_133 : decode cX7_setLabel 133 = .ok (.getfield 67, 3) := by decide +kernel
theorem dX7_setLabel_136 : decode cX7_setLabel 136 = .ok (.bipush 24, 2) := by decide +kernel
theorem dX7_setLabel_138 : decode cX7_setLabel 138 = .ok (.iload 5, 2) := by decide +kernel
theorem dX7_setLabel_140 : decode cX7_setLabel 140 = .ok (.iadd, 1) := by decide +kernel
theorem dX7_setLabel_141 : decode cX7_setLabel 141 = .ok (.baload, 1) := by decide +kernel
theorem dX7_setLabel_142 : decode cX7_setLabel 142 = .ok (.bastore, 1) := by decide +kernel
theorem dX7_setLabel_143 : decode cX7_setLabel 143 = .ok (.iinc 5 1, 3) := by decide +kernel
theorem dX7_setLabel_146 : decode cX7_setLabel 146 = .ok (.goto (-32), 3) := by decide +kernel
theorem dX7_setLabel_149 : decode cX7_setLabel 149 = .ok (.aload_n 0, 1) := by decide +kernel
theorem dX7_setLabel_150 : decode cX7_setLabel 150 = .ok (.iload_n 1, 1) := by decide +kernel
theorem dX7_setLabel_151 : decode cX7_setLabel 151 = .ok (.iconst 1, 1) := by decide +kernel
theorem dX7_setLabel_152 : decode cX7_setLabel 152 = .ok (.bipush 49, 2) := by decide +kernel
theorem dX7_setLabel_154 : decode cX7_setLabel 154 = .ok (.sipush 130, 3) := by decide +kernel
theorem dX7_setLabel_157 : decode cX7_setLabel 157 = .ok (.invokevirtual 205, 3) := by decide +kernel
theorem dX7_setLabel_160 : decode cX7_setLabel 160 = .ok (.aload_n 0, 1) := by decide +kernel
theorem dX7_setLabel_161 : decode cX7_setLabel 161 = .ok (.iconst 3, 1) := by decide +kernel
theorem dX7_setLabel_162 : decode cX7_setLabel 162 = .ok (.invokevirtual 187, 3) := by decide +kernel
theorem dX7_setLabel_165 : decode cX7_setLabel 165 = .ok (.aload_n 0, 1) := by decide +kernel
theorem dX7_setLabel_166 : decode cX7_setLabel 166 = .ok (.iload_n 1, 1) := by decide +kernel
theorem dX7_setLabel_167 : decode cX7_setLabel 167 = .ok (.invokevirtual 209, 3) := by decide +kernel
theorem dX7_setLabel_170 : decode cX7_setLabel 170 = .ok (.return_, 1) := by decide +kernel
theorem dX7_send_0 : decode cX7_send 0 = .ok (.aload_n 0, 1) := by decide +kernel
theorem dX7_send_1 : decode cX7_send 1 = .ok (.iconst 0, 1) := by decide +kernel
theorem dX7_send_2 : decode cX7_send 2 = .ok (.putfield 91, 3) := by decide +kernel
theorem dX7_send_5 : decode cX7_send 5 = .ok (.aload_n 0, 1) := by decide +kernel
theorem dX7_send_6 : decode cX7_send 6 = .ok (.aload_n 0, 1) := by decide +kernel
theorem dX7_send_7 : decode cX7_send 7 = .ok (.getfield 116, 3) := by decide +kernel
theorem dX7_send_10 : decode cX7_send 10 = .ok (.sipush 513, 3) := by decide +kernel
theorem dX7_send_13 : decode cX7_send 13 = .ok (.if_icmp .le 9, 3) := by decide +kernel
theorem dX7_send_16 : decode cX7_send 16 = .ok (.sipush 513, 3) := by decide +kernel
theorem dX7_send_19 : decode cX7_send 19 = .ok (.goto 7, 3) := by decide +kernel
theorem dX7_send_22 : decode cX7_send 22 = .ok (.aload_n 0, 1) := by decide +kernel
theorem dX7_send_23 : decode cX7_send 23 = .ok (.getfield 116, 3) := by decide +kernel
theorem dX7_send_26 : decode cX7_send 26 = .ok (.putfield 138, 3) := by decide +kernel
theorem dX7_send_29 : decode cX7_send 29 = .ok (.iconst 0, 1) := by decide +kernel
theorem dX7_send_30 : decode cX7_send 30 = .ok (.istore_n 1, 1) := by decide +kernel
theorem dX7_send_31 : decode cX7_send 31 = .ok (.iload_n 1, 1) := by decide +kernel
theorem dX7_send_32 : decode cX7_send 32 = .ok (.aload_n 0, 1) := by decide +kernel
theorem dX7_send_33 : decode cX7_send 33 = .ok (.getfield 138, 3) := by decide +kernel
theorem dX7_send_36 : decode cX7_send 36 = .ok (.if_icmp .ge 21, 3) := by decide +kernel
theorem dX7_send_39 : decode cX7_send 39 = .ok (.aload_n 0, 1) := by decide +kernel
theorem dX7_send_40 : decode cX7_send 40 = .ok (.getfield 67, 3) := by decide +kernel
theorem dX7_send_43 : decode cX7_send 43 = .ok (.iload_n 1, 1) := by decide +kernel
theorem dX7_send_44 : decode cX7_send 44 = .ok (.aload_n 0, 1) := by decide +kernel
theorem dX7_send_45 : decode cX7_send 45 = .ok (.getfield 64, 3) := by decide +kernel
theorem dX7_send_48 : decode cX7_send 48 = .ok (.iload_n 1, 1) := by decide +kernel
theorem dX7_send_49 : decode cX7_send 49 = .ok (.baload, 1) := by decide +kernel
theorem dX7_send_50 : decode cX7_send 50 = .ok (.bastore, 1) := by decide +kernel
theorem dX7_send_51 : decode cX7_send 51 = .ok (.iinc 1 1, 3) := by decide +kernel
theorem dX7_send_54 : decode cX7_send 54 = .ok (.goto (-23), 3) := by decide +kernel
theorem dX7_send_57 : decode cX7_send 57 = .ok (.aload_n 0, 1) := by decide +kernel
theorem dX7_send_58 : decode cX7_send 58 = .ok (.iconst 0, 1) := by decide +kernel
theorem dX7_send_59 : decode cX7_send 59 = .ok (.putfield 116, 3) := by decide +kernel
theorem dX7_send_62 : decode cX7_send 62 = .ok (.aload_n 0, 1) := by decide +kernel
theorem dX7_send_63 : decode cX7_send 63 = .ok (.invokevirtual 239, 3) := by decide +kernel
theorem dX7_send_66 : decode cX7_send 66 = .ok (.aload_n 0, 1) := by decide +kernel
theorem dX7_send_67 : decode cX7_send 67 = .ok (.getfield 135, 3) := by decide +kernel
theorem dX7_send_70 : decode cX7_send 70 = .ok (.ireturn, 1) := by decide +kernel
theorem dX7_answer_0 : decode cX7_answer 0 = .ok (.aload_n 0, 1) := by decide +kernel
theorem dX7_answer_1 : decode cX7_answer 1 = .ok (.iload_n 1, 1) := by decide +kernel
theorem dX7_answer_2 : decode cX7_answer 2 = .ok (.i2l, 1) := by decide +kernel
theorem dX7_answer_3 : decode cX7_answer 3 = .ok (.lconst 0, 1) := by decide +kernel
theorem dX7_answer_4 : decode cX7_answer 4 = .ok (.aload_n 0, 1) := by decide +kernel
theorem dX7_answer_5 : decode cX7_answer 5 = .ok (.getfield 135, 3) := by decide +kernel
theorem dX7_answer_8 : decode cX7_answer 8 = .ok (.iconst 1, 1) := by decide +kernel
theorem dX7_answer_9 : decode cX7_answer 9 = .ok (.isub, 1) := by decide +kernel
theorem dX7_answer_10 : decode cX7_answer 10 = .ok (.i2l, 1) := by decide +kernel
theorem dX7_answer_11 : decode cX7_answer 11 = .ok (.invokestatic 101, 3) := by decide +kernel
theorem dX7_answer_14 : decode cX7_answer 14 = .ok (.invokevirtual 119, 3) := by decide +kernel
theorem dX7_answer_17 : decode cX7_answer 17 = .ok (.ifCond .eq 16, 3) := by decide +kernel
theorem dX7_answer_20 : decode cX7_answer 20 = .ok (.aload_n 0, 1) := by decide +kernel
theorem dX7_answer_21 : decode cX7_answer 21 = .ok (.getfield 70, 3) := by decide +kernel
theorem dX7_answer_24 : decode cX7_answer 24 = .ok (.iload_n 1, 1) := by decide +kernel
theorem dX7_answer_25 : decode cX7_answer 25 = .ok (.baload, 1) := by decide +kernel
theorem dX7_answer_26 : decode cX7_answer 26 = .ok (.sipush 255, 3) := by decide +kernel
theorem dX7_answer_29 : decode cX7_answer 29 = .ok (.iand, 1) := by decide +kernel
theorem dX7_answer_30 : decode cX7_answer 30 = .ok (.goto 4, 3) := by decide +kernel
theorem dX7_answer_33 : decode cX7_answer 33 = .ok (.iconst 0, 1) := by decide +kernel
theorem dX7_answer_34 : decode cX7_answer 34 = .ok (.ireturn, 1) := by decide +kernel
theorem dX7_write_0 : decode cX7_write 0 = .ok (.aload_n 0, 1) := by decide +kernel
theorem dX7_write_1 : decode cX7_write 1 = .ok (.getfield 67, 3) := by decide +kernel
theorem dX7_write_4 : decode cX7_write 4 = .ok (.aload_n 0, 1) := by decide +kernel
theorem dX7_write_5 : decode cX7_write 5 = .ok (.getfield 138, 3) := by decide +kernel
theorem dX7_write_8 : decode cX7_write 8 = .ok (.iload_n 1, 1) := by decide +kernel
theorem dX7_write_9 : decode cX7_write 9 = .ok (.i2b, 1) := by decide +kernel
theorem dX7_write_10 : decode cX7_write 10 = .ok (.bastore, 1) := by decide +kernel
theorem dX7_write_11 : decode cX7_write 11 = .ok (.aload_n 0, 1) := by decide +kernel
theorem dX7_write_12 : decode cX7_write 12 = .ok (.dup, 1) := by decide +kernel
theorem dX7_write_13 : decode cX7_write 13 = .ok (.getfield 138, 3) := by decide +kernel
theorem dX7_write_16 : decode cX7_write 16 = .ok (.iconst 1, 1) := by decide +kernel
theorem dX7_write_17 : decode cX7_write 17 = .ok (.iadd, 1) := by decide +kernel
theorem dX7_write_18 : decode cX7_write 18 = .ok (.putfield 138, 3) := by decide +kernel
theorem dX7_write_21 : decode cX7_write 21 = .ok (.return_, 1) := by decide +kernel
theorem dX7_writeSix_0 : decode cX7_writeSix 0 = .ok (.bipush 40, 2) := by decide +kernel
theorem dX7_writeSix_2 : decode cX7_writeSix 2 = .ok (.istore_n 3, 1) := by decide +kernel
theorem dX7_writeSix_3 : decode cX7_writeSix 3 = .ok (.iload_n 3, 1) := by decide +kernel
theorem dX7_writeSix_4 : decode cX7_writeSix 4 = .ok (.ifCond .lt 17, 3) := by decide +kernel
theorem dX7_writeSix_7 : decode cX7_writeSix 7 = .ok (.aload_n 0, 1) := by decide +kernel
theorem dX7_writeSix_8 : decode cX7_writeSix 8 = .ok (.lload_n 1, 1) := by decide +kernel
theorem dX7_writeSix_9 : decode cX7_writeSix 9 = .ok (.iload_n 3, 1) := by decide +kernel
theorem dX7_writeSix_10 : decode cX7_writeSix 10 = .ok (.lshr, 1) := by decide +kernel
theorem dX7_writeSix_11 : decode cX7_writeSix 11 = .ok (.l2i, 1) := by decide +kernel
theorem dX7_writeSix_12 : decode cX7_writeSix 12 = .ok (.invokevirtual 242, 3) := by decide +kernel
theorem dX7_writeSix_15 : decode cX7_writeSix 15 = .ok (.iinc 3 (-8), 3) := by decide +kernel
theorem dX7_writeSix_18 : decode cX7_writeSix 18 = .ok (.goto (-15), 3) := by decide +kernel
theorem dX7_writeSix_21 : decode cX7_writeSix 21 = .ok (.return_, 1) := by decide +kernel
theorem dX7_beginPacket_0 : decode cX7_beginPacket 0 = .ok (.aload_n 0, 1) := by decide +kernel
theorem dX7_beginPacket_1 : decode cX7_beginPacket 1 = .ok (.aload_n 0, 1) := by decide +kernel
theorem dX7_beginPacket_2 : decode cX7_beginPacket 2 = .ok (.getfield 245, 3) := by decide +kernel
theorem dX7_beginPacket_5 : decode cX7_beginPacket 5 = .ok (.iconst 1, 1) := by decide +kernel
theorem dX7_beginPacket_6 : decode cX7_beginPacket 6 = .ok (.iadd, 1) := by decide +kernel
theorem dX7_beginPacket_7 : decode cX7_beginPacket 7 = .ok (.sipush 256, 3) := by decide +kernel
theorem dX7_beginPacket_10 : decode cX7_beginPacket 10 = .ok (.irem, 1) := by decide +kernel
theorem dX7_beginPacket_11 : decode cX7_beginPacket 11 = .ok (.putfield 245, 3) := by decide +kernel
theorem dX7_beginPacket_14 : decode cX7_beginPacket 14 = .ok (.aload_n 0, 1) := by decide +kernel
theorem dX7_beginPacket_15 : decode cX7_beginPacket 15 = .ok (.iconst 0, 1) := by decide +kernel
theorem dX7_beginPacket_16 : decode cX7_beginPacket 16 = .ok (.putfield 138, 3) := by decide +kernel
theorem dX7_beginPacket_19 : decode cX7_beginPacket 19 = .ok (.aload_n 0, 1) := by decide +kernel
theorem dX7_beginPacket_20 : decode cX7_beginPacket 20 = .ok (.sipush 204, 3) := by decide +kernel
theorem dX7_beginPacket_23 : decode cX7_beginPacket 23 = .ok (.invokevirtual 242, 3) := by decide +kernel
theorem dX7_beginPacket_26 : decode cX7_beginPacket 26 = .ok (.aload_n 0, 1) := by decide +kernel
theorem dX7_beginPacket_27 : decode cX7_beginPacket 27 = .ok (.iconst 1, 1) := by decide +kernel
theorem dX7_beginPacket_28 : decode cX7_beginPacket 28 = .ok (.invokevirtual 242, 3) := by decide +kernel
theorem dX7_beginPacket_31 : decode cX7_beginPacket 31 = .ok (.aload_n 0, 1) := by decide +kernel
theorem dX7_beginPacket_32 : decode cX7_beginPacket 32 = .ok (.iconst 0, 1) := by decide +kernel
theorem dX7_beginPacket_33 : decode cX7_beginPacket 33 = .ok (.invokevirtual 242, 3) := by decide +kernel
theorem dX7_beginPacket_36 : decode cX7_beginPacket 36 = .ok (.aload_n 0, 1) := by decide +kernel
theorem dX7_beginPacket_37 : decode cX7_beginPacket 37 = .ok (.lload_n 1, 1) := by decide +kernel
theorem dX7_beginPacket_38 : decode cX7_beginPacket 38 = .ok (.invokevirtual 248, 3) := by decide +kernel
theorem dX7_beginPacket_41 : decode cX7_beginPacket 41 = .ok (.aload_n 0, 1) := by decide +kernel
theorem dX7_beginPacket_42 : decode cX7_beginPacket 42 = .ok (.sipush 32766, 3) := by decide +kernel
theorem dX7_beginPacket_45 : decode cX7_beginPacket 45 = .ok (.lconst 1, 1) := by decide +kernel
theorem dX7_beginPacket_46 : decode cX7_beginPacket 46 = .ok (.invokestatic 95, 3) := by decide +kernel
theorem dX7_beginPacket_49 : decode cX7_beginPacket 49 = .ok (.invokevirtual 248, 3) := by decide +kernel
theorem dX7_beginPacket_52 : decode cX7_beginPacket 52 = .ok (.aload_n 0, 1) := by decide +kernel
theorem dX7_beginPacket_53 : decode cX7_beginPacket 53 = .ok (.aload_n 0, 1) := by decide +kernel
theorem dX7_beginPacket_54 : decode cX7_beginPacket 54 = .ok (.getfield 245, 3) := by decide +kernel
theorem dX7_beginPacket_57 : decode cX7_beginPacket 57 = .ok (.invokevirtual 242, 3) := by decide +kernel
theorem dX7_beginPacket_60 : decode cX7_beginPacket 60 = .ok (.aload_n 0, 1) := by decide +kernel
theorem dX7_beginPacket_61 : decode cX7_beginPacket 61 = .ok (.iconst 1, 1) := by decide +kernel
theorem dX7_beginPacket_62 : decode cX7_beginPacket 62 = .ok (.invokevirtual 242, 3) := by decide +kernel
theorem dX7_beginPacket_65 : decode cX7_beginPacket 65 = .ok (.aload_n 0, 1) := by decide +kernel
theorem dX7_beginPacket_66 : decode cX7_beginPacket 66 = .ok (.iconst 0, 1) := by decide +kernel
theorem dX7_beginPacket_67 : decode cX7_beginPacket 67 = .ok (.invokevirtual 242, 3) := by decide +kernel
theorem dX7_beginPacket_70 : decode cX7_beginPacket 70 = .ok (.aload_n 0, 1) := by decide +kernel
theorem dX7_beginPacket_71 : decode cX7_beginPacket 71 = .ok (.iload_n 3, 1) := by decide +kernel
theorem dX7_beginPacket_72 : decode cX7_beginPacket 72 = .ok (.bipush 8, 2) := by decide +kernel
theorem dX7_beginPacket_74 : decode cX7_beginPacket 74 = .ok (.ishr, 1) := by decide +kernel
theorem dX7_beginPacket_75 : decode cX7_beginPacket 75 = .ok (.invokevirtual 242, 3) := by decide +kernel
theorem dX7_beginPacket_78 : decode cX7_beginPacket 78 = .ok (.aload_n 0, 1) := by decide +kernel
theorem dX7_beginPacket_79 : decode cX7_beginPacket 79 = .ok (.iload_n 3, 1) := by decide +kernel
theorem dX7_beginPacket_80 : decode cX7_beginPacket 80 = .ok (.invokevirtual 242, 3) := by decide +kernel
theorem dX7_beginPacket_83 : decode cX7_beginPacket 83 = .ok (.aload_n 0, 1) := by decide +kernel
theorem dX7_beginPacket_84 : decode cX7_beginPacket 84 = .ok (.iload 4, 2) := by decide +kernel
theorem dX7_beginPacket_86 : decode cX7_beginPacket 86 = .ok (.invokevirtual 242, 3) := by decide +kernel
theorem dX7_beginPacket_89 : decode cX7_beginPacket 89 = .ok (.aload_n 0, 1) := by decide +kernel
theorem dX7_beginPacket_90 : decode cX7_beginPacket 90 = .ok (.iload 5, 2) := by decide +kernel
theorem dX7_beginPacket_92 : decode cX7_beginPacket 92 = .ok (.bipush 8, 2) := by decide +kernel
theorem dX7_beginPacket_94 : decode cX7_beginPacket 94 = .ok (.ishr, 1) := by decide +kernel
theorem dX7_beginPacket_95 : decode cX7_beginPacket 95 = .ok (.invokevirtual 242, 3) := by decide +kernel
theorem dX7_beginPacket_98 : decode cX7_beginPacket 98 = .ok (.aload_n 0, 1) := by decide +kernel
theorem dX7_beginPacket_99 : decode cX7_beginPacket 99 = .ok (.iload 5, 2) := by decide +kernel
theorem dX7_beginPacket_101 : decode cX7_beginPacket 101 = .ok (.invokevirtual 242, 3) := by decide +kernel
theorem dX7_beginPacket_104 : decode cX7_beginPacket 104 = .ok (.aload_n 0, 1) := by decide +kernel
theorem dX7_beginPacket_105 : decode cX7_beginPacket 105 = .ok (.iconst 0, 1) := by decide +kernel
theorem dX7_beginPacket_106 : decode cX7_beginPacket 106 = .ok (.invokevirtual 242, 3) := by decide +kernel
theorem dX7_beginPacket_109 : decode cX7_beginPacket 109 = .ok (.return_, 1) := by decide +kernel
theorem dX7_sendOff_0 : decode cX7_sendOff 0 = .ok (.aload_n 0, 1) := by decide +kernel
theorem dX7_sendOff_1 : decode cX7_sendOff 1 = .ok (.getfield 67, 3) := by decide +kernel
theorem dX7_sendOff_4 : decode cX7_sendOff 4 = .ok (.iconst 2, 1) := by decide +kernel
theorem dX7_sendOff_5 : decode cX7_sendOff 5 = .ok (.aload_n 0, 1) := by decide +kernel
theorem dX7_sendOff_6 : decode cX7_sendOff 6 = .ok (.getfield 138, 3) := by decide +kernel
theorem dX7_sendOff_9 : decode cX7_sendOff 9 = .ok (.i2b, 1) := by decide +kernel
theorem dX7_sendOff_10 : decode cX7_sendOff 10 = .ok (.bastore, 1) := by decide +kernel
theorem dX7_sendOff_11 : decode cX7_sendOff 11 = .ok (.aload_n 0, 1) := by decide +kernel
theorem dX7_sendOff_12 : decode cX7_sendOff 12 = .ok (.getfield 67, 3) := by decide +kernel
theorem dX7_sendOff_15 : decode cX7_sendOff 15 = .ok (.bipush 23, 2) := by decide +kernel
theorem dX7_sendOff_17 : decode cX7_sendOff 17 = .ok (.aload_n 0, 1) := by decide +kernel
theorem dX7_sendOff_18 : decode cX7_sendOff 18 = .ok (.getfield 138, 3) := by decide +kernel
theorem dX7_sendOff_21 : decode cX7_sendOff 21 = .ok (.bipush 24, 2) := by decide +kernel
theorem dX7_sendOff_23 : decode cX7_sendOff 23 = .ok (.isub, 1) := by decide +kernel
theorem dX7_sendOff_24 : decode cX7_sendOff 24 = .ok (.i2b, 1) := by decide +kernel
theorem dX7_sendOff_25 : decode cX7_sendOff 25 = .ok (.bastore, 1) := by decide +kernel
theorem dX7_sendOff_26 : decode cX7_sendOff 26 = .ok (.iconst 0, 1) := by decide +kernel
theorem dX7_sendOff_27 : decode cX7_sendOff 27 = .ok (.istore_n 1, 1) := by decide +kernel
theorem dX7_sendOff_28 : decode cX7_sendOff 28 = .ok (.iconst 0, 1) := by decide +kernel
theorem dX7_sendOff_29 : decode cX7_sendOff 29 = .ok (.istore_n 2, 1) := by decide +kernel
theorem dX7_sendOff_30 : decode cX7_sendOff 30 = .ok (.iload_n 2, 1) := by decide +kernel
theorem dX7_sendOff_31 : decode cX7_sendOff 31 = .ok (.aload_n 0, 1) := by decide +kernel
theorem dX7_sendOff_32 : decode cX7_sendOff 32 = .ok (.getfield 138, 3) := by decide +kernel
theorem dX7_sendOff_35 : decode cX7_sendOff 35 = .ok (.if_icmp .ge 17, 3) := by decide +kernel
theorem dX7_sendOff_38 : decode cX7_sendOff 38 = .ok (.iload_n 1, 1) := by decide +kernel
theorem dX7_sendOff_39 : decode cX7_sendOff 39 = .ok (.aload_n 0, 1) := by decide +kernel
theorem dX7_sendOff_40 : decode cX7_sendOff 40 = .ok (.iload_n 2, 1) := by decide +kernel
theorem dX7_sendOff_41 : decode cX7_sendOff 41 = .ok (.invokevirtual 123, 3) := by decide +kernel
theorem dX7_sendOff_44 : decode cX7_sendOff 44 = .ok (.iadd, 1) := by decide +kernel
theorem dX7_sendOff_45 : decode cX7_sendOff 45 = .ok (.istore_n 1, 1) := by decide +kernel
theorem dX7_sendOff_46 : decode cX7_sendOff 46 = .ok (.iinc 2 1, 3) := by decide +kernel
theorem dX7_sendOff_49 : decode cX7_sendOff 49 = .ok (.goto (-19), 3) := by decide +kernel
theorem dX7_sendOff_52 : decode cX7_sendOff 52 = .ok (.aload_n 0, 1) := by decide +kernel
theorem dX7_sendOff_53 : decode cX7_sendOff 53 = .ok (.iload_n 1, 1) := by decide +kernel
theorem dX7_sendOff_54 : decode cX7_sendOff 54 = .ok (.bipush 8, 2) := by decide +kernel
theorem dX7_sendOff_56 : decode cX7_sendOff 56 = .ok (.ishr, 1) := by decide +kernel
theorem dX7_sendOff_57 : decode cX7_sendOff 57 = .ok (.invokevirtual 242, 3) := by decide +kernel
theorem dX7_sendOff_60 : decode cX7_sendOff 60 = .ok (.aload_n 0, 1) := by decide +kernel
theorem dX7_sendOff_61 : decode cX7_sendOff 61 = .ok (.iload_n 1, 1) := by decide +kernel
theorem dX7_sendOff_62 : decode cX7_sendOff 62 = .ok (.invokevirtual 242, 3) := by decide +kernel
theorem dX7_sendOff_65 : decode cX7_sendOff 65 = .ok (.aload_n 0, 1) := by decide +kernel
theorem dX7_sendOff_66 : decode cX7_sendOff 66 = .ok (.invokevirtual 239, 3) := by decide +kernel
theorem dX7_sendOff_69 : decode cX7_sendOff 69 = .ok (.return_, 1) := by decide +kernel
theorem dX7_heard_0 : decode cX7_heard 0 = .ok (.aload_n 0, 1) := by decide +kernel
theorem dX7_heard_1 : decode cX7_heard 1 = .ok (.getfield 70, 3) := by decide +kernel
theorem dX7_heard_4 : decode cX7_heard 4 = .ok (.iload_n 1, 1) := by decide +kernel
theorem dX7_heard_5 : decode cX7_heard 5 = .ok (.baload, 1) := by decide +kernel
theorem dX7_heard_6 : decode cX7_heard 6 = .ok (.sipush 255, 3) := by decide +kernel
theorem dX7_heard_9 : decode cX7_heard 9 = .ok (.iand, 1) := by decide +kernel
theorem dX7_heard_10 : decode cX7_heard 10 = .ok (.ireturn, 1) := by decide +kernel
theorem dX7_heardSix_0 : decode cX7_heardSix 0 = .ok (.lconst 0, 1) := by decide +kernel
theorem dX7_heardSix_1 : decode cX7_heardSix 1 = .ok (.lstore_n 2, 1) := by decide +kernel
theorem dX7_heardSix_2 : decode cX7_heardSix 2 = .ok (.iconst 0, 1) := by decide +kernel
theorem dX7_heardSix_3 : decode cX7_heardSix 3 = .ok (.istore 4, 2) := by decide +kernel
theorem dX7_heardSix_5 : decode cX7_heardSix 5 = .ok (.iload 4, 2) := by decide +kernel
theorem dX7_heardSix_7 : decode cX7_heardSix 7 = .ok (.bipush 6, 2) := by decide +kernel
theorem dX7_heardSix_9 : decode cX7_heardSix 9 = .ok (.if_icmp .ge 25, 3) := by decide +kernel
theorem dX7_heardSix_12 : decode cX7_heardSix 12 = .ok (.lload_n 2, 1) := by decide +kernel
theorem dX7_heardSix_13 : decode cX7_heardSix 13 = .ok (.ldc2_w 127, 3) := by decide +kernel
theorem dX7_heardSix_16 : decode cX7_heardSix 16 = .ok (.lmul, 1) := by decide +kernel
theorem dX7_heardSix_17 : decode cX7_heardSix 17 = .ok (.aload_n 0, 1) := by decide +kernel
theorem dX7_heardSix_18 : decode cX7_heardSix 18 = .ok (.iload_n 1, 1) := by decide +kernel
theorem dX7_heardSix_19 : decode cX7_heardSix 19 = .ok (.iload 4, 2) := by decide +kernel
theorem dX7_heardSix_21 : decode cX7_heardSix 21 = .ok (.iadd, 1) := by decide +kernel
theorem dX7_heardSix_22 : decode cX7_heardSix 22 = .ok (.invokevirtual 251, 3) := by decide +kernel
theorem dX7_heardSix_25 : decode cX7_heardSix 25 = .ok (.i2l, 1) := by decide +kernel
theorem dX7_heardSix_26 : decode cX7_heardSix 26 = .ok (.ladd, 1) := by decide +kernel
theorem dX7_heardSix_27 : decode cX7_heardSix 27 = .ok (.lstore_n 2, 1) := by decide +kernel
theorem dX7_heardSix_28 : decode cX7_heardSix 28 = .ok (.iinc 4 1, 3) := by decide +kernel
theorem dX7_heardSix_31 : decode cX7_heardSix 31 = .ok (.goto (-26), 3) := by decide +kernel
theorem dX7_heardSix_34 : decode cX7_heardSix 34 = .ok (.lload_n 2, 1) := by decide +kernel
theorem dX7_heardSix_35 : decode cX7_heardSix 35 = .ok (.lreturn, 1) := by decide +kernel
theorem dX7_isReply_0 : decode cX7_isReply 0 = .ok (.aload_n 0, 1) := by decide +kernel
theorem dX7_isReply_1 : decode cX7_isReply 1 = .ok (.getfield 135, 3) := by decide +kernel
theorem dX7_isReply_4 : decode cX7_isReply 4 = .ok (.bipush 26, 2) := by decide +kernel
theorem dX7_isReply_6 : decode cX7_isReply 6 = .ok (.if_icmp .lt 64, 3) := by decide +kernel
theorem dX7_isReply_9 : decode cX7_isReply 9 = .ok (.aload_n 0, 1) := by decide +kernel
theorem dX7_isReply_10 : decode cX7_isReply 10 = .ok (.iconst 0, 1) := by decide +kernel
theorem dX7_isReply_11 : decode cX7_isReply 11 = .ok (.invokevirtual 251, 3) := by decide +kernel
theorem dX7_isReply_14 : decode cX7_isReply 14 = .ok (.sipush 204, 3) := by decide +kernel
theorem dX7_isReply_17 : decode cX7_isReply 17 = .ok (.if_icmp .ne 53, 3) := by decide +kernel
theorem dX7_isReply_20 : decode cX7_isReply 20 = .ok (.aload_n 0, 1) := by decide +kernel
theorem dX7_isReply_21 : decode cX7_isReply 21 = .ok (.iconst 1, 1) := by decide +kernel
theorem dX7_isReply_22 : decode cX7_isReply 22 = .ok (.invokevirtual 251, 3) := by decide +kernel
theorem dX7_isReply_25 : decode cX7_isReply 25 = .ok (.iconst 1, 1) := by decide +kernel
theorem dX7_isReply_26 : decode cX7_isReply 26 = .ok (.if_icmp .ne 44, 3) := by decide +kernel
theorem dX7_isReply_29 : decode cX7_isReply 29 = .ok (.aload_n 0, 1) := by decide +kernel
theorem dX7_isReply_30 : decode cX7_isReply 30 = .ok (.iconst 2, 1) := by decide +kernel
theorem dX7_isReply_31 : decode cX7_isReply 31 = .ok (.invokevirtual 251, 3) := by decide +kernel
theorem dX7_isReply_34 : decode cX7_isReply 34 = .ok (.bipush 24, 2) := by decide +kernel
theorem dX7_isReply_36 : decode cX7_isReply 36 = .ok (.if_icmp .lt 34, 3) := by decide +kernel
theorem dX7_isReply_39 : decode cX7_isReply 39 = .ok (.aload_n 0, 1) := by decide +kernel
theorem dX7_isReply_40 : decode cX7_isReply 40 = .ok (.getfield 135, 3) := by decide +kernel
theorem dX7_isReply_43 : decode cX7_isReply 43 = .ok (.aload_n 0, 1) := by decide +kernel
theorem dX7_isReply_44 : decode cX7_isReply 44 = .ok (.iconst 2, 1) := by decide +kernel
theorem dX7_isReply_45 : decode cX7_isReply 45 = .ok (.invokevirtual 251, 3) := by decide +kernel
theorem dX7_isReply_48 : decode cX7_isReply 48 = .ok (.iconst 2, 1) := by decide +kernel
theorem dX7_isReply_49 : decode cX7_isReply 49 = .ok (.iadd, 1) := by decide +kernel
theorem dX7_isReply_50 : decode cX7_isReply 50 = .ok (.if_icmp .ne 20, 3) := by decide +kernel
theorem dX7_isReply_53 : decode cX7_isReply 53 = .ok (.aload_n 0, 1) := by decide +kernel
theorem dX7_isReply_54 : decode cX7_isReply 54 = .ok (.bipush 23, 2) := by decide +kernel
theorem dX7_isReply_56 : decode cX7_isReply 56 = .ok (.invokevirtual 251, 3) := by decide +kernel
theorem dX7_isReply_59 : decode cX7_isReply 59 = .ok (.aload_n 0, 1) := by decide +kernel
theorem dX7_isReply_60 : decode cX7_isReply 60 = .ok (.iconst 2, 1) := by decide +kernel
theorem dX7_isReply_61 : decode cX7_isReply 61 = .ok (.invokevirtual 251, 3) := by decide +kernel
theorem dX7_isReply_64 : decode cX7_isReply 64 = .ok (.bipush 24, 2) := by decide +kernel
theorem dX7_isReply_66 : decode cX7_isReply 66 = .ok (.isub, 1) := by decide +kernel
theorem dX7_isReply_67 : decode cX7_isReply 67 = .ok (.if_icmp .eq 5, 3) := by decide +kernel
theorem dX7_isReply_70 : decode cX7_isReply 70 = .ok (.iconst 0, 1) := by decide +kernel
theorem dX7_isReply_71 : decode cX7_isReply 71 = .ok (.ireturn, 1) := by decide +kernel
theorem dX7_isReply_72 : decode cX7_isReply 72 = .ok (.iconst 0, 1) := by decide +kernel
theorem dX7_isReply_73 : decode cX7_isReply 73 = .ok (.istore_n 3, 1) := by decide +kernel
theorem dX7_isReply_74 : decode cX7_isReply 74 = .ok (.iconst 0, 1) := by decide +kernel
theorem dX7_isReply_75 : decode cX7_isReply 75 = .ok (.istore 4, 2) := by decide +kernel
theorem dX7_isReply_77 : decode cX7_isReply 77 = .ok (.iload 4, 2) := by decide +kernel
theorem dX7_isReply_79 : decode cX7_isReply 79 = .ok (.aload_n 0, 1) := by decide +kernel
theorem dX7_isReply_80 : decode cX7_isReply 80 = .ok (.iconst 2, 1) := by decide +kernel
theorem dX7_isReply_81 : decode cX7_isReply 81 = .ok (.invokevirtual 251, 3) := by decide +kernel
theorem dX7_isReply_84 : decode cX7_isReply 84 = .ok (.if_icmp .ge 18, 3) := by decide +kernel
theorem dX7_isReply_87 : decode cX7_isReply 87 = .ok (.iload_n 3, 1) := by decide +kernel
theorem dX7_isReply_88 : decode cX7_isReply 88 = .ok (.aload_n 0, 1) := by decide +kernel
theorem dX7_isReply_89 : decode cX7_isReply 89 = .ok (.iload 4, 2) := by decide +kernel
theorem dX7_isReply_91 : decode cX7_isReply 91 = .ok (.invokevirtual 251, 3) := by decide +kernel
theorem dX7_isReply_94 : decode cX7_isReply 94 = .ok (.iadd, 1) := by decide +kernel
theorem dX7_isReply_95 : decode cX7_isReply 95 = .ok (.istore_n 3, 1) := by decide +kernel
theorem dX7_isReply_96 : decode cX7_isReply 96 = .ok (.iinc 4 1, 3) := by decide +kernel
theorem dX7_isReply_99 : decode cX7_isReply 99 = .ok (.goto (-22), 3) := by decide +kernel
theorem dX7_isReply_102 : decode cX7_isReply 102 = .ok (.iload_n 3, 1) := by decide +kernel
theorem dX7_isReply_103 : decode cX7_isReply 103 = .ok (.ldc 176, 2) := by decide +kernel
theorem dX7_isReply_105 : decode cX7_isReply 105 = .ok (.irem, 1) := by decide +kernel
theorem dX7_isReply_106 : decode cX7_isReply 106 = .ok (.aload_n 0, 1) := by decide +kernel
theorem dX7_isReply_107 : decode cX7_isReply 107 = .ok (.aload_n 0, 1) := by decide +kernel
theorem dX7_isReply_108 : decode cX7_isReply 108 = .ok (.iconst 2, 1) := by decide +kernel
theorem dX7_isReply_109 : decode cX7_isReply 109 = .ok (.invokevirtual 251, 3) := by decide +kernel
theorem dX7_isReply_112 : decode cX7_isReply 112 = .ok (.invokevirtual 251, 3) := by decide +kernel
theorem dX7_isReply_115 : decode cX7_isReply 115 = .ok (.sipush 256, 3) := by decide +kernel
theorem dX7_isReply_118 : decode cX7_isReply 118 = .ok (.imul, 1) := by decide +kernel
theorem dX7_isReply_119 : decode cX7_isReply 119 = .ok (.aload_n 0, 1) := by decide +kernel
theorem dX7_isReply_120 : decode cX7_isReply 120 = .ok (.aload_n 0, 1) := by decide +kernel
theorem dX7_isReply_121 : decode cX7_isReply 121 = .ok (.iconst 2, 1) := by decide +kernel
theorem dX7_isReply_122 : decode cX7_isReply 122 = .ok (.invokevirtual 251, 3) := by decide +kernel
theorem dX7_isReply_125 : decode cX7_isReply 125 = .ok (.iconst 1, 1) := by decide +kernel
theorem dX7_isReply_126 : decode cX7_isReply 126 = .ok (.iadd, 1) := by decide +kernel
theorem dX7_isReply_127 : decode cX7_isReply 127 = .ok (.invokevirtual 251, 3) := by decide +kernel
theorem dX7_isReply_130 : decode cX7_isReply 130 = .ok (.iadd, 1) := by decide +kernel
theorem dX7_isReply_131 : decode cX7_isReply 131 = .ok (.if_icmp .ne 7, 3) := by decide +kernel
theorem dX7_isReply_134 : decode cX7_isReply 134 = .ok (.iconst 1, 1) := by decide +kernel
theorem dX7_isReply_135 : decode cX7_isReply 135 = .ok (.goto 4, 3) := by decide +kernel
theorem dX7_isReply_138 : decode cX7_isReply 138 = .ok (.iconst 0, 1) := by decide +kernel
theorem dX7_isReply_139 : decode cX7_isReply 139 = .ok (.istore 4, 2) := by decide +kernel
theorem dX7_isReply_141 : decode cX7_isReply 141 = .ok (.iload 4, 2) := by decide +kernel
theorem dX7_isReply_143 : decode cX7_isReply 143 = .ok (.ifCond .eq 47, 3) := by decide +kernel
theorem dX7_isReply_146 : decode cX7_isReply 146 = .ok (.aload_n 0, 1) := by decide +kernel
theorem dX7_isReply_147 : decode cX7_isReply 147 = .ok (.iconst 3, 1) := by decide +kernel
theorem dX7_isReply_148 : decode cX7_isReply 148 = .ok (.invokevirtual 254, 3) := by decide +kernel
theorem dX7_isReply_151 : decode cX7_isReply 151 = .ok (.sipush 32766, 3) := by decide +kernel
theorem dX7_isReply_154 : decode cX7_isReply 154 = .ok (.lconst 1, 1) := by decide +kernel
theorem dX7_isReply_155 : decode cX7_isReply 155 = .ok (.invokestatic 95, 3) := by decide +kernel
theorem dX7_isReply_158 : decode cX7_isReply 158 = .ok (.lcmp, 1) := by decide +kernel
theorem dX7_isReply_159 : decode cX7_isReply 159 = .ok (.ifCond .ne 31, 3) := by decide +kernel
theorem dX7_isReply_162 : decode cX7_isReply 162 = .ok (.aload_n 0, 1) := by decide +kernel
theorem dX7_isReply_163 : decode cX7_isReply 163 = .ok (.bipush 9, 2) := by decide +kernel
theorem dX7_isReply_165 : decode cX7_isReply 165 = .ok (.invokevirtual 254, 3) := by decide +kernel
theorem dX7_isReply_168 : decode cX7_isReply 168 = .ok (.lload_n 1, 1) := by decide +kernel
theorem dX7_isReply_169 : decode cX7_isReply 169 = .ok (.lcmp, 1) := by decide +kernel
theorem dX7_isReply_170 : decode cX7_isReply 170 = .ok (.ifCond .ne 20, 3) := by decide +kernel
theorem dX7_isReply_173 : decode cX7_isReply 173 = .ok (.aload_n 0, 1) := by decide +kernel
theorem dX7_isReply_174 : decode cX7_isReply 174 = .ok (.bipush 15, 2) := by decide +kernel
theorem dX7_isReply_176 : decode cX7_isReply 176 = .ok (.invokevirtual 251, 3) := by decide +kernel
theorem dX7_isReply_179 : decode cX7_isReply 179 = .ok (.aload_n 0, 1) := by decide +kernel
theorem dX7_isReply_180 : decode cX7_isReply 180 = .ok (.getfield 245, 3) := by decide +kernel
theorem dX7_isReply_183 : decode cX7_isReply 183 = .ok (.if_icmp .ne 7, 3) := by decide +kernel
theorem dX7_isReply_186 : decode cX7_isReply 186 = .ok (.iconst 1, 1) := by decide +kernel
theorem dX7_isReply_187 : decode cX7_isReply 187 = .ok (.goto 4, 3) := by decide +kernel
theorem dX7_isReply_190 : decode cX7_isReply 190 = .ok (.iconst 0, 1) := by decide +kernel
theorem dX7_isReply_191 : decode cX7_isReply 191 = .ok (.ireturn, 1) := by decide +kernel
theorem dX7_ask_0 : decode cX7_ask 0 = .ok (.aload_n 0, 1) := by decide +kernel
theorem dX7_ask_1 : decode cX7_ask 1 = .ok (.iload_n 1, 1) := by decide +kernel
theorem dX7_ask_2 : decode cX7_ask 2 = .ok (.i2l, 1) := by decide +kernel
theorem dX7_ask_3 : decode cX7_ask 3 = .ok (.lconst 0, 1) := by decide +kernel
theorem dX7_ask_4 : decode cX7_ask 4 = .ok (.ldc2_w 158, 3) := by decide +kernel
theorem dX7_ask_7 : decode cX7_ask 7 = .ok (.invokestatic 101, 3) := by decide +kernel
theorem dX7_ask_10 : decode cX7_ask 10 = .ok (.ifCond .eq 57, 3) := by decide +kernel
theorem dX7_ask_13 : decode cX7_ask 13 = .ok (.lload_n 2, 1) := by decide +kernel
theorem dX7_ask_14 : decode cX7_ask 14 = .ok (.lconst 0, 1) := by decide +kernel
theorem dX7_ask_15 : decode cX7_ask 15 = .ok (.ldc2_w 156, 3) := by decide +kernel
theorem dX7_ask_18 : decode cX7_ask 18 = .ok (.invokestatic 101, 3) := by decide +kernel
theorem dX7_ask_21 : decode cX7_ask 21 = .ok (.ifCond .eq 46, 3) := by decide +kernel
theorem dX7_ask_24 : decode cX7_ask 24 = .ok (.iload 4, 2) := by decide +kernel
theorem dX7_ask_26 : decode cX7_ask 26 = .ok (.i2l, 1) := by decide +kernel
theorem dX7_ask_27 : decode cX7_ask 27 = .ok (.lconst 0, 1) := by decide +kernel
theorem dX7_ask_28 : decode cX7_ask 28 = .ok (.ldc2_w 158, 3) := by decide +kernel
theorem dX7_ask_31 : decode cX7_ask 31 = .ok (.invokestatic 101, 3) := by decide +kernel
theorem dX7_ask_34 : decode cX7_ask 34 = .ok (.ifCond .eq 33, 3) := by decide +kernel
theorem dX7_ask_37 : decode cX7_ask 37 = .ok (.iload 5, 2) := by decide +kernel
theorem dX7_ask_39 : decode cX7_ask 39 = .ok (.i2l, 1) := by decide +kernel
theorem dX7_ask_40 : decode cX7_ask 40 = .ok (.lconst 0, 1) := by decide +kernel
theorem dX7_ask_41 : decode cX7_ask 41 = .ok (.ldc2_w 257, 3) := by decide +kernel
theorem dX7_ask_44 : decode cX7_ask 44 = .ok (.invokestatic 101, 3) := by decide +kernel
theorem dX7_ask_47 : decode cX7_ask 47 = .ok (.ifCond .eq 20, 3) := by decide +kernel
theorem dX7_ask_50 : decode cX7_ask 50 = .ok (.iload 6, 2) := by decide +kernel
theorem dX7_ask_52 : decode cX7_ask 52 = .ok (.i2l, 1) := by decide +kernel
theorem dX7_ask_53 : decode cX7_ask 53 = .ok (.lconst 0, 1) := by decide +kernel
theorem dX7_ask_54 : decode cX7_ask 54 = .ok (.ldc2_w 158, 3) := by decide +kernel
theorem dX7_ask_57 : decode cX7_ask 57 = .ok (.invokestatic 101, 3) := by decide +kernel
theorem dX7_ask_60 : decode cX7_ask 60 = .ok (.ifCond .eq 7, 3) := by decide +kernel
theorem dX7_ask_63 : decode cX7_ask 63 = .ok (.iconst 1, 1) := by decide +kernel
theorem dX7_ask_64 : decode cX7_ask 64 = .ok (.goto 4, 3) := by decide +kernel
theorem dX7_ask_67 : decode cX7_ask 67 = .ok (.iconst 0, 1) := by decide +kernel
theorem dX7_ask_68 : decode cX7_ask 68 = .ok (.invokevirtual 119, 3) := by decide +kernel
theorem dX7_ask_71 : decode cX7_ask 71 = .ok (.ifCond .ne 5, 3) := by decide +kernel
theorem dX7_ask_74 : decode cX7_ask 74 = .ok (.iconst 0, 1) := by decide +kernel
theorem dX7_ask_75 : decode cX7_ask 75 = .ok (.ireturn, 1) := by decide +kernel
theorem dX7_ask_76 : decode cX7_ask 76 = .ok (.aload_n 0, 1) := by decide +kernel
theorem dX7_ask_77 : decode cX7_ask 77 = .ok (.iload_n 1, 1) := by decide +kernel
theorem dX7_ask_78 : decode cX7_ask 78 = .ok (.lload_n 2, 1) := by decide +kernel
theorem dX7_ask_79 : decode cX7_ask 79 = .ok (.invokestatic 95, 3) := by decide +kernel
theorem dX7_ask_82 : decode cX7_ask 82 = .ok (.iload 4, 2) := by decide +kernel
theorem dX7_ask_84 : decode cX7_ask 84 = .ok (.iload 5, 2) := by decide +kernel
theorem dX7_ask_86 : decode cX7_ask 86 = .ok (.iload 6, 2) := by decide +kernel
theorem dX7_ask_88 : decode cX7_ask 88 = .ok (.invokevirtual 259, 3) := by decide +kernel
theorem dX7_ask_91 : decode cX7_ask 91 = .ok (.iconst 0, 1) := by decide +kernel
theorem dX7_ask_92 : decode cX7_ask 92 = .ok (.istore 7, 2) := by decide +kernel
theorem dX7_ask_94 : decode cX7_ask 94 = .ok (.iload 7, 2) := by decide +kernel
theorem dX7_ask_96 : decode cX7_ask 96 = .ok (.aload_n 0, 1) := by decide +kernel
theorem dX7_ask_97 : decode cX7_ask 97 = .ok (.getfield 116, 3) := by decide +kernel
theorem dX7_ask_100 : decode cX7_ask 100 = .ok (.if_icmp .ge 28, 3) := by decide +kernel
theorem dX7_ask_103 : decode cX7_ask 103 = .ok (.iload 7, 2) := by decide +kernel
theorem dX7_ask_105 : decode cX7_ask 105 = .ok (.sipush 231, 3) := by decide +kernel
theorem dX7_ask_108 : decode cX7_ask 108 = .ok (.if_icmp .ge 20, 3) := by decide +kernel
theorem dX7_ask_111 : decode cX7_ask 111 = .ok (.aload_n 0, 1) := by decide +kernel
theorem dX7_ask_112 : decode cX7_ask 112 = .ok (.aload_n 0, 1) := by decide +kernel
theorem dX7_ask_113 : decode cX7_ask 113 = .ok (.getfield 64, 3) := by decide +kernel
theorem dX7_ask_116 : decode cX7_ask 116 = .ok (.iload 7, 2) := by decide +kernel
theorem dX7_ask_118 : decode cX7_ask 118 = .ok (.baload, 1) := by decide +kernel
theorem dX7_ask_119 : decode cX7_ask 119 = .ok (.invokevirtual 242, 3) := by decide +kernel
theorem dX7_ask_122 : decode cX7_ask 122 = .ok (.iinc 7 1, 3) := by decide +kernel
theorem dX7_ask_125 : decode cX7_ask 125 = .ok (.goto (-31), 3) := by decide +kernel
theorem dX7_ask_128 : decode cX7_ask 128 = .ok (.aload_n 0, 1) := by decide +kernel
theorem dX7_ask_129 : decode cX7_ask 129 = .ok (.iconst 0, 1) := by decide +kernel
theorem dX7_ask_130 : decode cX7_ask 130 = .ok (.putfield 116, 3) := by decide +kernel
theorem dX7_ask_133 : decode cX7_ask 133 = .ok (.aload_n 0, 1) := by decide +kernel
theorem dX7_ask_134 : decode cX7_ask 134 = .ok (.invokevirtual 263, 3) := by decide +kernel
theorem dX7_ask_137 : decode cX7_ask 137 = .ok (.aload_n 0, 1) := by decide +kernel
theorem dX7_ask_138 : decode cX7_ask 138 = .ok (.getfield 135, 3) := by decide +kernel
theorem dX7_ask_141 : decode cX7_ask 141 = .ok (.ifCond .ne 7, 3) := by decide +kernel
theorem dX7_ask_144 : decode cX7_ask 144 = .ok (.iconst (-1), 1) := by decide +kernel
theorem dX7_ask_145 : decode cX7_ask 145 = .ok (.goto 26, 3) := by decide +kernel
theorem dX7_ask_148 : decode cX7_ask 148 = .ok (.aload_n 0, 1) := by decide +kernel
theorem dX7_ask_149 : decode cX7_ask 149 = .ok (.iload_n 1, 1) := by decide +kernel
theorem dX7_ask_150 : decode cX7_ask 150 = .ok (.lload_n 2, 1) := by decide +kernel
theorem dX7_ask_151 : decode cX7_ask 151 = .ok (.invokestatic 95, 3) := by decide +kernel
theorem dX7_ask_154 : decode cX7_ask 154 = .ok (.invokevirtual 266, 3) := by decide +kernel
theorem dX7_ask_157 : decode cX7_ask 157 = .ok (.ifCond .eq 12, 3) := by decide +kernel
theorem dX7_ask_160 : decode cX7_ask 160 = .ok (.aload_n 0, 1) := by decide +kernel
theorem dX7_ask_161 : decode cX7_ask 161 = .ok (.bipush 16, 2) := by decide +kernel
theorem dX7_ask_163 : decode cX7_ask 163 = .ok (.invokevirtual 251, 3) := by decide +kernel
theorem dX7_ask_166 : decode cX7_ask 166 = .ok (.goto 5, 3) := by decide +kernel
theorem dX7_ask_169 : decode cX7_ask 169 = .ok (.bipush (-2), 2) := by decide +kernel
theorem dX7_ask_171 : decode cX7_ask 171 = .ok (.ireturn, 1) := by decide +kernel
theorem dX7_spoil_0 : decode cX7_spoil 0 = .ok (.aload_n 0, 1) := by decide +kernel
theorem dX7_spoil_1 : decode cX7_spoil 1 = .ok (.iload_n 1, 1) := by decide +kernel
theorem dX7_spoil_2 : decode cX7_spoil 2 = .ok (.i2l, 1) := by decide +kernel
theorem dX7_spoil_3 : decode cX7_spoil 3 = .ok (.lconst 0, 1) := by decide +kernel
theorem dX7_spoil_4 : decode cX7_spoil 4 = .ok (.ldc2_w 270, 3) := by decide +kernel
theorem dX7_spoil_7 : decode cX7_spoil 7 = .ok (.invokestatic 101, 3) := by decide +kernel
theorem dX7_spoil_10 : decode cX7_spoil 10 = .ok (.invokevirtual 119, 3) := by decide +kernel
theorem dX7_spoil_13 : decode cX7_spoil 13 = .ok (.ifCond .ne 4, 3) := by decide +kernel
theorem dX7_spoil_16 : decode cX7_spoil 16 = .ok (.return_, 1) := by decide +kernel
theorem dX7_spoil_17 : decode cX7_spoil 17 = .ok (.aload_n 0, 1) := by decide +kernel
theorem dX7_spoil_18 : decode cX7_spoil 18 = .ok (.getfield 170, 3) := by decide +kernel
theorem dX7_spoil_21 : decode cX7_spoil 21 = .ok (.bipush 16, 2) := by decide +kernel
theorem dX7_spoil_23 : decode cX7_spoil 23 = .ok (.if_icmp .ne 57, 3) := by decide +kernel
theorem dX7_spoil_26 : decode cX7_spoil 26 = .ok (.aload_n 0, 1) := by decide +kernel
theorem dX7_spoil_27 : decode cX7_spoil 27 = .ok (.dup, 1) := by decide +kernel
theorem dX7_spoil_28 : decode cX7_spoil 28 = .ok (.getfield 170, 3) := by decide +kernel
theorem dX7_spoil_31 : decode cX7_spoil 31 = .ok (.iconst 1, 1) := by decide +kernel
theorem dX7_spoil_32 : decode cX7_spoil 32 = .ok (.isub, 1) := by decide +kernel
theorem dX7_spoil_33 : decode cX7_spoil 33 = .ok (.putfield 170, 3) := by decide +kernel
theorem dX7_spoil_36 : decode cX7_spoil 36 = .ok (.iconst 0, 1) := by decide +kernel
theorem dX7_spoil_37 : decode cX7_spoil 37 = .ok (.istore_n 3, 1) := by decide +kernel
theorem dX7_spoil_38 : decode cX7_spoil 38 = .ok (.iload_n 3, 1) := by decide +kernel
theorem dX7_spoil_39 : decode cX7_spoil 39 = .ok (.aload_n 0, 1) := by decide +kernel
theorem dX7_spoil_40 : decode cX7_spoil 40 = .ok (.getfield 170, 3) := by decide +kernel
theorem dX7_spoil_43 : decode cX7_spoil 43 = .ok (.if_icmp .ge 37, 3) := by decide +kernel
theorem dX7_spoil_46 : decode cX7_spoil 46 = .ok (.aload_n 0, 1) := by decide +kernel
theorem dX7_spoil_47 : decode cX7_spoil 47 = .ok (.getfield 76, 3) := by decide +kernel
theorem dX7_spoil_50 : decode cX7_spoil 50 = .ok (.iload_n 3, 1) := by decide +kernel
theorem dX7_spoil_51 : decode cX7_spoil 51 = .ok (.aload_n 0, 1) := by decide +kernel
theorem dX7_spoil_52 : decode cX7_spoil 52 = .ok (.getfield 76, 3) := by decide +kernel
theorem dX7_spoil_55 : decode cX7_spoil 55 = .ok (.iload_n 3, 1) := by decide +kernel
theorem dX7_spoil_56 : decode cX7_spoil 56 = .ok (.iconst 1, 1) := by decide +kernel
theorem dX7_spoil_57 : decode cX7_spoil 57 = .ok (.iadd, 1) := by decide +kernel
theorem dX7_spoil_58 : decode cX7_spoil 58 = .ok (.iaload, 1) := by decide +kernel
theorem dX7_spoil_59 : decode cX7_spoil 59 = .ok (.iastore, 1) := by decide +kernel
theorem dX7_spoil_60 : decode cX7_spoil 60 = .ok (.aload_n 0, 1) := by decide +kernel
theorem dX7_spoil_61 : decode cX7_spoil 61 = .ok (.getfield 79, 3) := by decide +kernel
theorem dX7_spoil_64 : decode cX7_spoil 64 = .ok (.iload_n 3, 1) := by decide +kernel
theorem dX7_spoil_65 : decode cX7_spoil 65 = .ok (.aload_n 0, 1) := by decide +kernel
theorem dX7_spoil_66 : decode cX7_spoil 66 = .ok (.getfield 79, 3) := by decide +kernel
theorem dX7_spoil_69 : decode cX7_spoil 69 = .ok (.iload_n 3, 1) := by decide +kernel
theorem dX7_spoil_70 : decode cX7_spoil 70 = .ok (.iconst 1, 1) := by decide +kernel
theorem dX7_spoil_71 : decode cX7_spoil 71 = .ok (.iadd, 1) := by decide +kernel
theorem dX7_spoil_72 : decode cX7_spoil 72 = .ok (.iaload, 1) := by decide +kernel
theorem dX7_spoil_73 : decode cX7_spoil 73 = .ok (.iastore, 1) := by decide +kernel
theorem dX7_spoil_74 : decode cX7_spoil 74 = .ok (.iinc 3 1, 3) := by decide +kernel
theorem dX7_spoil_77 : decode cX7_spoil 77 = .ok (.goto (-39), 3) := by decide +kernel
theorem dX7_spoil_80 : decode cX7_spoil 80 = .ok (.aload_n 0, 1) := by decide +kernel
theorem dX7_spoil_81 : decode cX7_spoil 81 = .ok (.getfield 76, 3) := by decide +kernel
theorem dX7_spoil_84 : decode cX7_spoil 84 = .ok (.aload_n 0, 1) := by decide +kernel
theorem dX7_spoil_85 : decode cX7_spoil 85 = .ok (.getfield 170, 3) := by decide +kernel
theorem dX7_spoil_88 : decode cX7_spoil 88 = .ok (.iload_n 1, 1) := by decide +kernel
theorem dX7_spoil_89 : decode cX7_spoil 89 = .ok (.iastore, 1) := by decide +kernel
theorem dX7_spoil_90 : decode cX7_spoil 90 = .ok (.aload_n 0, 1) := by decide +kernel
theorem dX7_spoil_91 : decode cX7_spoil 91 = .ok (.getfield 79, 3) := by decide +kernel
theorem dX7_spoil_94 : decode cX7_spoil 94 = .ok (.aload_n 0, 1) := by decide +kernel
theorem dX7_spoil_95 : decode cX7_spoil 95 = .ok (.getfield 170, 3) := by decide +kernel
theorem dX7_spoil_98 : decode cX7_spoil 98 = .ok (.iload_n 2, 1) := by decide +kernel
theorem dX7_spoil_99 : decode cX7_spoil 99 = .ok (.iastore, 1) := by decide +kernel
theorem dX7_spoil_100 : decode cX7_spoil 100 = .ok (.aload_n 0, 1) := by decide +kernel
theorem dX7_spoil_101 : decode cX7_spoil 101 = .ok (.dup, 1) := by decide +kernel
theorem dX7_spoil_102 : decode cX7_spoil 102 = .ok (.getfield 170, 3) := by decide +kernel
theorem dX7_spoil_105 : decode cX7_spoil 105 = .ok (.iconst 1, 1) := by decide +kernel
theorem dX7_spoil_106 : decode cX7_spoil 106 = .ok (.iadd, 1) := by decide +kernel
theorem dX7_spoil_107 : decode cX7_spoil 107 = .ok (.putfield 170, 3) := by decide +kernel
theorem dX7_spoil_110 : decode cX7_spoil 110 = .ok (.return_, 1) := by decide +kernel
theorem dX7_frames_0 : decode cX7_frames 0 = .ok (.aload_n 0, 1) := by decide +kernel
theorem dX7_frames_1 : decode cX7_frames 1 = .ok (.iconst 0, 1) := by decide +kernel
theorem dX7_frames_2 : decode cX7_frames 2 = .ok (.putfield 91, 3) := by decide +kernel
theorem dX7_frames_5 : decode cX7_frames 5 = .ok (.aload_n 0, 1) := by decide +kernel
theorem dX7_frames_6 : decode cX7_frames 6 = .ok (.getfield 129, 3) := by decide +kernel
theorem dX7_frames_9 : decode cX7_frames 9 = .ok (.ireturn, 1) := by decide +kernel
theorem dX7_isLamp_0 : decode cX7_isLamp 0 = .ok (.iload_n 1, 1) := by decide +kernel
theorem dX7_isLamp_1 : decode cX7_isLamp 1 = .ok (.i2l, 1) := by decide +kernel
theorem dX7_isLamp_2 : decode cX7_isLamp 2 = .ok (.lconst 0, 1) := by decide +kernel
theorem dX7_isLamp_3 : decode cX7_isLamp 3 = .ok (.aload_n 0, 1) := by decide +kernel
theorem dX7_isLamp_4 : decode cX7_isLamp 4 = .ok (.getfield 113, 3) := by decide +kernel
theorem dX7_isLamp_7 : decode cX7_isLamp 7 = .ok (.iconst 1, 1) := by decide +kernel
theorem dX7_isLamp_8 : decode cX7_isLamp 8 = .ok (.isub, 1) := by decide +kernel
theorem dX7_isLamp_9 : decode cX7_isLamp 9 = .ok (.i2l, 1) := by decide +kernel
theorem dX7_isLamp_10 : decode cX7_isLamp 10 = .ok (.invokestatic 101, 3) := by decide +kernel
theorem dX7_isLamp_13 : decode cX7_isLamp 13 = .ok (.ireturn, 1) := by decide +kernel
theorem dX7_about_0 : decode cX7_about 0 = .ok (.aload_n 0, 1) := by decide +kernel
theorem dX7_about_1 : decode cX7_about 1 = .ok (.aload_n 0, 1) := by decide +kernel
theorem dX7_about_2 : decode cX7_about 2 = .ok (.iload_n 1, 1) := by decide +kernel
theorem dX7_about_3 : decode cX7_about 3 = .ok (.invokevirtual 272, 3) := by decide +kernel
theorem dX7_about_6 : decode cX7_about 6 = .ok (.ifCond .eq 19, 3) := by decide +kernel
theorem dX7_about_9 : decode cX7_about 9 = .ok (.iload_n 2, 1) := by decide +kernel
theorem dX7_about_10 : decode cX7_about 10 = .ok (.i2l, 1) := by decide +kernel
theorem dX7_about_11 : decode cX7_about 11 = .ok (.lconst 0, 1) := by decide +kernel
theorem dX7_about_12 : decode cX7_about 12 = .ok (.ldc2_w 275, 3) := by decide +kernel
theorem dX7_about_15 : decode cX7_about 15 = .ok (.invokestatic 101, 3) := by decide +kernel
theorem dX7_about_18 : decode cX7_about 18 = .ok (.ifCond .eq 7, 3) := by decide +kernel
theorem dX7_about_21 : decode cX7_about 21 = .ok (.iconst 1, 1) := by decide +kernel
theorem dX7_about_22 : decode cX7_about 22 = .ok (.goto 4, 3) := by decide +kernel
theorem dX7_about_25 : decode cX7_about 25 = .ok (.iconst 0, 1) := by decide +kernel
theorem dX7_about_26 : decode cX7_about 26 = .ok (.invokevirtual 119, 3) := by decide +kernel
theorem dX7_about_29 : decode cX7_about 29 = .ok (.ifCond .ne 5, 3) := by decide +kernel
theorem dX7_about_32 : decode cX7_about 32 = .ok (.iconst 0, 1) := by decide +kernel
theorem dX7_about_33 : decode cX7_about 33 = .ok (.ireturn, 1) := by decide +kernel
theorem dX7_about_34 : decode cX7_about 34 = .ok (.iload_n 2, 1) := by decide +kernel
theorem dX7_about_35 : decode cX7_about 35 = .ok (.tableswitch 161 0 9 #[53, 60, 66, 73, 80, 87, 102, 117, 148, 154], 53) := by decide +kernel
theorem dX7_about_88 : decode cX7_about 88 = .ok (.aload_n 0, 1) := by decide +kernel
theorem dX7_about_89 : decode cX7_about 89 = .ok (.getfield 7, 3) := by decide +kernel
theorem dX7_about_92 : decode cX7_about 92 = .ok (.iload_n 1, 1) := by decide +kernel
theorem dX7_about_93 : decode cX7_about 93 = .ok (.iaload, 1) := by decide +kernel
theorem dX7_about_94 : decode cX7_about 94 = .ok (.ireturn, 1) := by decide +kernel
theorem dX7_about_95 : decode cX7_about 95 = .ok (.aload_n 0, 1) := by decide +kernel
theorem dX7_about_96 : decode cX7_about 96 = .ok (.iload_n 1, 1) := by decide +kernel
theorem dX7_about_97 : decode cX7_about 97 = .ok (.invokevirtual 173, 3) := by decide +kernel
theorem dX7_about_100 : decode cX7_about 100 = .ok (.ireturn, 1) := by decide +kernel
theorem dX7_about_101 : decode cX7_about 101 = .ok (.aload_n 0, 1) := by decide +kernel
theorem dX7_about_102 : decode cX7_about 102 = .ok (.getfield 23, 3) := by decide +kernel
theorem dX7_about_105 : decode cX7_about 105 = .ok (.iload_n 1, 1) := by decide +kernel
theorem dX7_about_106 : decode cX7_about 106 = .ok (.iaload, 1) := by decide +kernel
theorem dX7_about_107 : decode cX7_about 107 = .ok (.ireturn, 1) := by decide +kernel
theorem dX7_about_108 : decode cX7_about 108 = .ok (.aload_n 0, 1) := by decide +kernel
theorem dX7_about_109 : decode cX7_about 109 = .ok (.getfield 20, 3) := by decide +kernel
theorem dX7_about_112 : decode cX7_about 112 = .ok (.iload_n 1, 1) := by decide +kernel
theorem dX7_about_113 : decode cX7_about 113 = .ok (.iaload, 1) := by decide +kernel
theorem dX7_about_114 : decode cX7_about 114 = .ok (.ireturn, 1) := by decide +kernel
theorem dX7_about_115 : decode cX7_about 115 = .ok (.aload_n 0, 1) := by decide +kernel
theorem dX7_about_116 : decode cX7_about 116 = .ok (.getfield 26, 3) := by decide +kernel
theorem dX7_about_119 : decode cX7_about 119 = .ok (.iload_n 1, 1) := by decide +kernel
theorem dX7_about_120 : decode cX7_about 120 = .ok (.iaload, 1) := by decide +kernel
theorem dX7_about_121 : decode cX7_about 121 = .ok (.ireturn, 1) := by decide +kernel
theorem dX7_about_122 : decode cX7_about 122 = .ok (.aload_n 0, 1) := by decide +kernel
theorem dX7_about_123 : decode cX7_about 123 = .ok (.getfield 29, 3) := by decide +kernel
theorem dX7_about_126 : decode cX7_about 126 = .ok (.iload_n 1, 1) := by decide +kernel
theorem dX7_about_127 : decode cX7_about 127 = .ok (.baload, 1) := by decide +kernel
theorem dX7_about_128 : decode cX7_about 128 = .ok (.ifCond .eq 7, 3) := by decide +kernel
theorem dX7_about_131 : decode cX7_about 131 = .ok (.iconst 1, 1) := by decide +kernel
theorem dX7_about_132 : decode cX7_about 132 = .ok (.goto 4, 3) := by decide +kernel
theorem dX7_about_135 : decode cX7_about 135 = .ok (.iconst 0, 1) := by decide +kernel
theorem dX7_about_136 : decode cX7_about 136 = .ok (.ireturn, 1) := by decide +kernel
theorem dX7_about_137 : decode cX7_about 137 = .ok (.aload_n 0, 1) := by decide +kernel
theorem dX7_about_138 : decode cX7_about 138 = .ok (.getfield 33, 3) := by decide +kernel
theorem dX7_about_141 : decode cX7_about 141 = .ok (.iload_n 1, 1) := by decide +kernel
theorem dX7_about_142 : decode cX7_about 142 = .ok (.baload, 1) := by decide +kernel
theorem dX7_about_143 : decode cX7_about 143 = .ok (.ifCond .eq 7, 3) := by decide +kernel
theorem dX7_about_146 : decode cX7_about 146 = .ok (.iconst 1, 1) := by decide +kernel
theorem dX7_about_147 : decode cX7_about 147 = .ok (.goto 4, 3) := by decide +kernel
theorem dX7_about_150 : decode cX7_about 150 = .ok (.iconst 0, 1) := by decide +kernel
theorem dX7_about_151 : decode cX7_about 151 = .ok (.ireturn, 1) := by decide +kernel
theorem dX7_about_152 : decode cX7_about 152 = .ok (.aload_n 0, 1) := by decide +kernel
theorem dX7_about_153 : decode cX7_about 153 = .ok (.getfield 49, 3) := by decide +kernel
theorem dX7_about_156 : decode cX7_about 156 = .ok (.iload_n 1, 1) := by decide +kernel
theorem dX7_about_157 : decode cX7_about 157 = .ok (.iaload, 1) := by decide +kernel
theorem dX7_about_158 : decode cX7_about 158 = .ok (.ifCond .eq 19, 3) := by decide +kernel
theorem dX7_about_161 : decode cX7_about 161 = .ok (.aload_n 0, 1) := by decide +kernel
theorem dX7_about_162 : decode cX7_about 162 = .ok (.getfield 129, 3) := by decide +kernel
theorem dX7_about_165 : decode cX7_about 165 = .ok (.aload_n 0, 1) := by decide +kernel
theorem dX7_about_166 : decode cX7_about 166 = .ok (.getfield 49, 3) := by decide +kernel
theorem dX7_about_169 : decode cX7_about 169 = .ok (.iload_n 1, 1) := by decide +kernel
theorem dX7_about_170 : decode cX7_about 170 = .ok (.iaload, 1) := by decide +kernel
theorem dX7_about_171 : decode cX7_about 171 = .ok (.isub, 1) := by decide +kernel
theorem dX7_about_172 : decode cX7_about 172 = .ok (.bipush 20, 2) := by decide +kernel
theorem dX7_about_174 : decode cX7_about 174 = .ok (.if_icmp .lt 7, 3) := by decide +kernel
theorem dX7_about_177 : decode cX7_about 177 = .ok (.iconst 1, 1) := by decide +kernel
theorem dX7_about_178 : decode cX7_about 178 = .ok (.goto 4, 3) := by decide +kernel
theorem dX7_about_181 : decode cX7_about 181 = .ok (.iconst 0, 1) := by decide +kernel
theorem dX7_about_182 : decode cX7_about 182 = .ok (.ireturn, 1) := by decide +kernel
theorem dX7_about_183 : decode cX7_about 183 = .ok (.aload_n 0, 1) := by decide +kernel
theorem dX7_about_184 : decode cX7_about 184 = .ok (.iload_n 1, 1) := by decide +kernel
theorem dX7_about_185 : decode cX7_about 185 = .ok (.invokevirtual 190, 3) := by decide +kernel
theorem dX7_about_188 : decode cX7_about 188 = .ok (.ireturn, 1) := by decide +kernel
theorem dX7_about_189 : decode cX7_about 189 = .ok (.aload_n 0, 1) := by decide +kernel
theorem dX7_about_190 : decode cX7_about 190 = .ok (.getfield 36, 3) := by decide +kernel
theorem dX7_about_193 : decode cX7_about 193 = .ok (.iload_n 1, 1) := by decide +kernel
theorem dX7_about_194 : decode cX7_about 194 = .ok (.iaload, 1) := by decide +kernel
theorem dX7_about_195 : decode cX7_about 195 = .ok (.ireturn, 1) := by decide +kernel
theorem dX7_about_196 : decode cX7_about 196 = .ok (.aload_n 0, 1) := by decide +kernel
theorem dX7_about_197 : decode cX7_about 197 = .ok (.getfield 43, 3) := by decide +kernel
theorem dX7_about_200 : decode cX7_about 200 = .ok (.iload_n 1, 1) := by decide +kernel
theorem dX7_about_201 : decode cX7_about 201 = .ok (.iaload, 1) := by decide +kernel
theorem dX7_about_202 : decode cX7_about 202 = .ok (.ireturn, 1) := by decide +kernel
theorem dX7_rest_0 : decode cX7_rest 0 = .ok (.aload_n 0, 1) := by decide +kernel
theorem dX7_rest_1 : decode cX7_rest 1 = .ok (.aload_n 0, 1) := by decide +kernel
theorem dX7_rest_2 : decode cX7_rest 2 = .ok (.iload_n 1, 1) := by decide +kernel
theorem dX7_rest_3 : decode cX7_rest 3 = .ok (.invokevirtual 272, 3) := by decide +kernel
theorem dX7_rest_6 : decode cX7_rest 6 = .ok (.invokevirtual 119, 3) := by decide +kernel
theorem dX7_rest_9 : decode cX7_rest 9 = .ok (.ifCond .eq 12, 3) := by decide +kernel
theorem dX7_rest_12 : decode cX7_rest 12 = .ok (.aload_n 0, 1) := by decide +kernel
theorem dX7_rest_13 : decode cX7_rest 13 = .ok (.getfield 13, 3) := by decide +kernel
theorem dX7_rest_16 : decode cX7_rest 16 = .ok (.iload_n 1, 1) := by decide +kernel
theorem dX7_rest_17 : decode cX7_rest 17 = .ok (.laload, 1) := by decide +kernel
theorem dX7_rest_18 : decode cX7_rest 18 = .ok (.goto 4, 3) := by decide +kernel
theorem dX7_rest_21 : decode cX7_rest 21 = .ok (.lconst 0, 1) := by decide +kernel
theorem dX7_rest_22 : decode cX7_rest 22 = .ok (.lreturn, 1) := by decide +kernel
theorem dX7_level_0 : decode cX7_level 0 = .ok (.aload_n 0, 1) := by decide +kernel
theorem dX7_level_1 : decode cX7_level 1 = .ok (.aload_n 0, 1) := by decide +kernel
theorem dX7_level_2 : decode cX7_level 2 = .ok (.iload_n 1, 1) := by decide +kernel
theorem dX7_level_3 : decode cX7_level 3 = .ok (.invokevirtual 272, 3) := by decide +kernel
theorem dX7_level_6 : decode cX7_level 6 = .ok (.ifCond .eq 24, 3) := by decide +kernel
theorem dX7_level_9 : decode cX7_level 9 = .ok (.iload_n 2, 1) := by decide +kernel
theorem dX7_level_10 : decode cX7_level 10 = .ok (.i2l, 1) := by decide +kernel
theorem dX7_level_11 : decode cX7_level 11 = .ok (.lconst 0, 1) := by decide +kernel
theorem dX7_level_12 : decode cX7_level 12 = .ok (.aload_n 0, 1) := by decide +kernel
theorem dX7_level_13 : decode cX7_level 13 = .ok (.iload_n 1, 1) := by decide +kernel
theorem dX7_level_14 : decode cX7_level 14 = .ok (.invokevirtual 173, 3) := by decide +kernel
theorem dX7_level_17 : decode cX7_level 17 = .ok (.iconst 1, 1) := by decide +kernel
theorem dX7_level_18 : decode cX7_level 18 = .ok (.isub, 1) := by decide +kernel
theorem dX7_level_19 : decode cX7_level 19 = .ok (.i2l, 1) := by decide +kernel
theorem dX7_level_20 : decode cX7_level 20 = .ok (.invokestatic 101, 3) := by decide +kernel
theorem dX7_level_23 : decode cX7_level 23 = .ok (.ifCond .eq 7, 3) := by decide +kernel
theorem dX7_level_26 : decode cX7_level 26 = .ok (.iconst 1, 1) := by decide +kernel
theorem dX7_level_27 : decode cX7_level 27 = .ok (.goto 4, 3) := by decide +kernel
theorem dX7_level_30 : decode cX7_level 30 = .ok (.iconst 0, 1) := by decide +kernel
theorem dX7_level_31 : decode cX7_level 31 = .ok (.invokevirtual 119, 3) := by decide +kernel
theorem dX7_level_34 : decode cX7_level 34 = .ok (.ifCond .eq 18, 3) := by decide +kernel
theorem dX7_level_37 : decode cX7_level 37 = .ok (.aload_n 0, 1) := by decide +kernel
theorem dX7_level_38 : decode cX7_level 38 = .ok (.getfield 46, 3) := by decide +kernel
theorem dX7_level_41 : decode cX7_level 41 = .ok (.sipush 512, 3) := by decide +kernel
theorem dX7_level_44 : decode cX7_level 44 = .ok (.iload_n 1, 1) := by decide +kernel
theorem dX7_level_45 : decode cX7_level 45 = .ok (.imul, 1) := by decide +kernel
theorem dX7_level_46 : decode cX7_level 46 = .ok (.iload_n 2, 1) := by decide +kernel
theorem dX7_level_47 : decode cX7_level 47 = .ok (.iadd, 1) := by decide +kernel
theorem dX7_level_48 : decode cX7_level 48 = .ok (.iaload, 1) := by decide +kernel
theorem dX7_level_49 : decode cX7_level 49 = .ok (.goto 4, 3) := by decide +kernel
theorem dX7_level_52 : decode cX7_level 52 = .ok (.iconst 0, 1) := by decide +kernel
theorem dX7_level_53 : decode cX7_level 53 = .ok (.ireturn, 1) := by decide +kernel
theorem dX7_label_0 : decode cX7_label 0 = .ok (.aload_n 0, 1) := by decide +kernel
theorem dX7_label_1 : decode cX7_label 1 = .ok (.aload_n 0, 1) := by decide +kernel
theorem dX7_label_2 : decode cX7_label 2 = .ok (.iload_n 1, 1) := by decide +kernel
theorem dX7_label_3 : decode cX7_label 3 = .ok (.invokevirtual 272, 3) := by decide +kernel
theorem dX7_label_6 : decode cX7_label 6 = .ok (.ifCond .eq 25, 3) := by decide +kernel
theorem dX7_label_9 : decode cX7_label 9 = .ok (.iload_n 2, 1) := by decide +kernel
theorem dX7_label_10 : decode cX7_label 10 = .ok (.i2l, 1) := by decide +kernel
theorem dX7_label_11 : decode cX7_label 11 = .ok (.lconst 0, 1) := by decide +kernel
theorem dX7_label_12 : decode cX7_label 12 = .ok (.aload_n 0, 1) := by decide +kernel
theorem dX7_label_13 : decode cX7_label 13 = .ok (.getfield 36, 3) := by decide +kernel
theorem dX7_label_16 : decode cX7_label 16 = .ok (.iload_n 1, 1) := by decide +kernel
theorem dX7_label_17 : decode cX7_label 17 = .ok (.iaload, 1) := by decide +kernel
theorem dX7_label_18 : decode cX7_label 18 = .ok (.iconst 1, 1) := by decide +kernel
theorem dX7_label_19 : decode cX7_label 19 = .ok (.isub, 1) := by decide +kernel
theorem dX7_label_20 : decode cX7_label 20 = .ok (.i2l, 1) := by decide +kernel
theorem dX7_label_21 : decode cX7_label 21 = .ok (.invokestatic 101, 3) := by decide +kernel
theorem dX7_label_24 : decode cX7_label 24 = .ok (.ifCond .eq 7, 3) := by decide +kernel
theorem dX7_label_27 : decode cX7_label 27 = .ok (.iconst 1, 1) := by decide +kernel
theorem dX7_label_28 : decode cX7_label 28 = .ok (.goto 4, 3) := by decide +kernel
theorem dX7_label_31 : decode cX7_label 31 = .ok (.iconst 0, 1) := by decide +kernel
theorem dX7_label_32 : decode cX7_label 32 = .ok (.invokevirtual 119, 3) := by decide +kernel
theorem dX7_label_35 : decode cX7_label 35 = .ok (.ifCond .eq 21, 3) := by decide +kernel
theorem dX7_label_38 : decode cX7_label 38 = .ok (.aload_n 0, 1) := by decide +kernel
theorem dX7_label_39 : decode cX7_label 39 = .ok (.getfield 39, 3) := by decide +kernel
theorem dX7_label_42 : decode cX7_label 42 = .ok (.bipush 32, 2) := by decide +kernel
theorem dX7_label_44 : decode cX7_label 44 = .ok (.iload_n 1, 1) := by decide +kernel
theorem dX7_label_45 : decode cX7_label 45 = .ok (.imul, 1) := by decide +kernel
theorem dX7_label_46 : decode cX7_label 46 = .ok (.iload_n 2, 1) := by decide +kernel
theorem dX7_label_47 : decode cX7_label 47 = .ok (.iadd, 1) := by decide +kernel
theorem dX7_label_48 : decode cX7_label 48 = .ok (.baload, 1) := by decide +kernel
theorem dX7_label_49 : decode cX7_label 49 = .ok (.sipush 255, 3) := by decide +kernel
theorem dX7_label_52 : decode cX7_label 52 = .ok (.iand, 1) := by decide +kernel
theorem dX7_label_53 : decode cX7_label 53 = .ok (.goto 4, 3) := by decide +kernel
theorem dX7_label_56 : decode cX7_label 56 = .ok (.iconst 0, 1) := by decide +kernel
theorem dX7_label_57 : decode cX7_label 57 = .ok (.ireturn, 1) := by decide +kernel
theorem dX7_silence_0 : decode cX7_silence 0 = .ok (.aload_n 0, 1) := by decide +kernel
theorem dX7_silence_1 : decode cX7_silence 1 = .ok (.aload_n 0, 1) := by decide +kernel
theorem dX7_silence_2 : decode cX7_silence 2 = .ok (.iload_n 1, 1) := by decide +kernel
theorem dX7_silence_3 : decode cX7_silence 3 = .ok (.invokevirtual 272, 3) := by decide +kernel
theorem dX7_silence_6 : decode cX7_silence 6 = .ok (.invokevirtual 119, 3) := by decide +kernel
theorem dX7_silence_9 : decode cX7_silence 9 = .ok (.ifCond .ne 5, 3) := by decide +kernel
theorem dX7_silence_12 : decode cX7_silence 12 = .ok (.iconst 0, 1) := by decide +kernel
theorem dX7_silence_13 : decode cX7_silence 13 = .ok (.ireturn, 1) := by decide +kernel
theorem dX7_silence_14 : decode cX7_silence 14 = .ok (.aload_n 0, 1) := by decide +kernel
theorem dX7_silence_15 : decode cX7_silence 15 = .ok (.getfield 29, 3) := by decide +kernel
theorem dX7_silence_18 : decode cX7_silence 18 = .ok (.iload_n 1, 1) := by decide +kernel
theorem dX7_silence_19 : decode cX7_silence 19 = .ok (.baload, 1) := by decide +kernel
theorem dX7_silence_20 : decode cX7_silence 20 = .ok (.ifCond .eq 7, 3) := by decide +kernel
theorem dX7_silence_23 : decode cX7_silence 23 = .ok (.iconst 1, 1) := by decide +kernel
theorem dX7_silence_24 : decode cX7_silence 24 = .ok (.goto 4, 3) := by decide +kernel
theorem dX7_silence_27 : decode cX7_silence 27 = .ok (.iconst 0, 1) := by decide +kernel
theorem dX7_silence_28 : decode cX7_silence 28 = .ok (.istore_n 3, 1) := by decide +kernel
theorem dX7_silence_29 : decode cX7_silence 29 = .ok (.aload_n 0, 1) := by decide +kernel
theorem dX7_silence_30 : decode cX7_silence 30 = .ok (.getfield 29, 3) := by decide +kernel
theorem dX7_silence_33 : decode cX7_silence 33 = .ok (.iload_n 1, 1) := by decide +kernel
theorem dX7_silence_34 : decode cX7_silence 34 = .ok (.iload_n 2, 1) := by decide +kernel
theorem dX7_silence_35 : decode cX7_silence 35 = .ok (.bastore, 1) := by decide +kernel
theorem dX7_silence_36 : decode cX7_silence 36 = .ok (.iload_n 3, 1) := by decide +kernel
theorem dX7_silence_37 : decode cX7_silence 37 = .ok (.ireturn, 1) := by decide +kernel
theorem dX7_search_0 : decode cX7_search 0 = .ok (.aload_n 0, 1) := by decide +kernel
theorem dX7_search_1 : decode cX7_search 1 = .ok (.iconst 0, 1) := by decide +kernel
theorem dX7_search_2 : decode cX7_search 2 = .ok (.putfield 91, 3) := by decide +kernel
theorem dX7_search_5 : decode cX7_search 5 = .ok (.aload_n 0, 1) := by decide +kernel
theorem dX7_search_6 : decode cX7_search 6 = .ok (.iconst 1, 1) := by decide +kernel
theorem dX7_search_7 : decode cX7_search 7 = .ok (.putfield 277, 3) := by decide +kernel
theorem dX7_search_10 : decode cX7_search 10 = .ok (.aload_n 0, 1) := by decide +kernel
theorem dX7_search_11 : decode cX7_search 11 = .ok (.iconst 0, 1) := by decide +kernel
theorem dX7_search_12 : decode cX7_search 12 = .ok (.putfield 281, 3) := by decide +kernel
theorem dX7_search_15 : decode cX7_search 15 = .ok (.aload_n 0, 1) := by decide +kernel
theorem dX7_search_16 : decode cX7_search 16 = .ok (.iconst 0, 1) := by decide +kernel
theorem dX7_search_17 : decode cX7_search 17 = .ok (.putfield 284, 3) := by decide +kernel
theorem dX7_search_20 : decode cX7_search 20 = .ok (.aload_n 0, 1) := by decide +kernel
theorem dX7_search_21 : decode cX7_search 21 = .ok (.iconst 1, 1) := by decide +kernel
theorem dX7_search_22 : decode cX7_search 22 = .ok (.putfield 287, 3) := by decide +kernel
theorem dX7_search_25 : decode cX7_search 25 = .ok (.aload_n 0, 1) := by decide +kernel
theorem dX7_search_26 : decode cX7_search 26 = .ok (.getfield 82, 3) := by decide +kernel
theorem dX7_search_29 : decode cX7_search 29 = .ok (.iconst 0, 1) := by decide +kernel
theorem dX7_search_30 : decode cX7_search 30 = .ok (.lconst 0, 1) := by decide +kernel
theorem dX7_search_31 : decode cX7_search 31 = .ok (.lastore, 1) := by decide +kernel
theorem dX7_search_32 : decode cX7_search 32 = .ok (.aload_n 0, 1) := by decide +kernel
theorem dX7_search_33 : decode cX7_search 33 = .ok (.getfield 85, 3) := by decide +kernel
theorem dX7_search_36 : decode cX7_search 36 = .ok (.iconst 0, 1) := by decide +kernel
theorem dX7_search_37 : decode cX7_search 37 = .ok (.ldc2_w 290, 3) := by decide +kernel
theorem dX7_search_40 : decode cX7_search 40 = .ok (.lastore, 1) := by decide +kernel
theorem dX7_search_41 : decode cX7_search 41 = .ok (.aload_n 0, 1) := by decide +kernel
theorem dX7_search_42 : decode cX7_search 42 = .ok (.ldc2_w 292, 3) := by decide +kernel
theorem dX7_search_45 : decode cX7_search 45 = .ok (.iconst 0, 1) := by decide +kernel
theorem dX7_search_46 : decode cX7_search 46 = .ok (.bipush 16, 2) := by decide +kernel
theorem dX7_search_48 : decode cX7_search 48 = .ok (.iconst 3, 1) := by decide +kernel
theorem dX7_search_49 : decode cX7_search 49 = .ok (.invokevirtual 259, 3) := by decide +kernel
theorem dX7_search_52 : decode cX7_search 52 = .ok (.aload_n 0, 1) := by decide +kernel
theorem dX7_search_53 : decode cX7_search 53 = .ok (.invokevirtual 263, 3) := by decide +kernel
theorem dX7_search_56 : decode cX7_search 56 = .ok (.iconst 1, 1) := by decide +kernel
theorem dX7_search_57 : decode cX7_search 57 = .ok (.ireturn, 1) := by decide +kernel
theorem dX7_push_0 : decode cX7_push 0 = .ok (.aload_n 0, 1) := by decide +kernel
theorem dX7_push_1 : decode cX7_push 1 = .ok (.getfield 82, 3) := by decide +kernel
theorem dX7_push_4 : decode cX7_push 4 = .ok (.aload_n 0, 1) := by decide +kernel
theorem dX7_push_5 : decode cX7_push 5 = .ok (.getfield 287, 3) := by decide +kernel
theorem dX7_push_8 : decode cX7_push 8 = .ok (.lload_n 1, 1) := by decide +kernel
theorem dX7_push_9 : decode cX7_push 9 = .ok (.lastore, 1) := by decide +kernel
theorem dX7_push_10 : decode cX7_push 10 = .ok (.aload_n 0, 1) := by decide +kernel
theorem dX7_push_11 : decode cX7_push 11 = .ok (.getfield 85, 3) := by decide +kernel
theorem dX7_push_14 : decode cX7_push 14 = .ok (.aload_n 0, 1) := by decide +kernel
theorem dX7_push_15 : decode cX7_push 15 = .ok (.getfield 287, 3) := by decide +kernel
theorem dX7_push_18 : decode cX7_push 18 = .ok (.lload_n 3, 1) := by decide +kernel
theorem dX7_push_19 : decode cX7_push 19 = .ok (.lastore, 1) := by decide +kernel
theorem dX7_push_20 : decode cX7_push 20 = .ok (.aload_n 0, 1) := by decide +kernel
theorem dX7_push_21 : decode cX7_push 21 = .ok (.dup, 1) := by decide +kernel
theorem dX7_push_22 : decode cX7_push 22 = .ok (.getfield 287, 3) := by decide +kernel
theorem dX7_push_25 : decode cX7_push 25 = .ok (.iconst 1, 1) := by decide +kernel
theorem dX7_push_26 : decode cX7_push 26 = .ok (.iadd, 1) := by decide +kernel
theorem dX7_push_27 : decode cX7_push 27 = .ok (.putfield 287, 3) := by decide +kernel
theorem dX7_push_30 : decode cX7_push 30 = .ok (.return_, 1) := by decide +kernel
theorem dX7_isFound_0 : decode cX7_isFound 0 = .ok (.iconst 0, 1) := by decide +kernel
theorem dX7_isFound_1 : decode cX7_isFound 1 = .ok (.istore_n 3, 1) := by decide +kernel
theorem dX7_isFound_2 : decode cX7_isFound 2 = .ok (.iconst 0, 1) := by decide +kernel
theorem dX7_isFound_3 : decode cX7_isFound 3 = .ok (.istore 4, 2) := by decide +kernel
theorem dX7_isFound_5 : decode cX7_isFound 5 = .ok (.iload 4, 2) := by decide +kernel
theorem dX7_isFound_7 : decode cX7_isFound 7 = .ok (.aload_n 0, 1) := by decide +kernel
theorem dX7_isFound_8 : decode cX7_isFound 8 = .ok (.getfield 284, 3) := by decide +kernel
theorem dX7_isFound_11 : decode cX7_isFound 11 = .ok (.if_icmp .ge 31, 3) := by decide +kernel
theorem dX7_isFound_14 : decode cX7_isFound 14 = .ok (.iload_n 3, 1) := by decide +kernel
theorem dX7_isFound_15 : decode cX7_isFound 15 = .ok (.ifCond .ne 15, 3) := by decide +kernel
theorem dX7_isFound_18 : decode cX7_isFound 18 = .ok (.aload_n 0, 1) := by decide +kernel
theorem dX7_isFound_19 : decode cX7_isFound 19 = .ok (.getfield 88, 3) := by decide +kernel
theorem dX7_isFound_22 : decode cX7_isFound 22 = .ok (.iload 4, 2) := by decide +kernel
theorem dX7_isFound_24 : decode cX7_isFound 24 = .ok (.laload, 1) := by decide +kernel
theorem dX7_isFound_25 : decode cX7_isFound 25 = .ok (.lload_n 1, 1) := by decide +kernel
theorem dX7_isFound_26 : decode cX7_isFound 26 = .ok (.lcmp, 1) := by decide +kernel
theorem dX7_isFound_27 : decode cX7_isFound 27 = .ok (.ifCond .ne 7, 3) := by decide +kernel
theorem dX7_isFound_30 : decode cX7_isFound 30 = .ok (.iconst 1, 1) := by decide +kernel
theorem dX7_isFound_31 : decode cX7_isFound 31 = .ok (.goto 4, 3) := by decide +kernel
theorem dX7_isFound_34 : decode cX7_isFound 34 = .ok (.iconst 0, 1) := by decide +kernel
theorem dX7_isFound_35 : decode cX7_isFound 35 = .ok (.istore_n 3, 1) := by decide +kernel
theorem dX7_isFound_36 : decode cX7_isFound 36 = .ok (.iinc 4 1, 3) := by decide +kernel
theorem dX7_isFound_39 : decode cX7_isFound 39 = .ok (.goto (-34), 3) := by decide +kernel
theorem dX7_isFound_42 : decode cX7_isFound 42 = .ok (.iload_n 3, 1) := by decide +kernel
theorem dX7_isFound_43 : decode cX7_isFound 43 = .ok (.ireturn, 1) := by decide +kernel
theorem dX7_tried_0 : decode cX7_tried 0 = .ok (.aload_n 0, 1) := by decide +kernel
theorem dX7_tried_1 : decode cX7_tried 1 = .ok (.lload_n 1, 1) := by decide +kernel
theorem dX7_tried_2 : decode cX7_tried 2 = .ok (.iconst 0, 1) := by decide +kernel
theorem dX7_tried_3 : decode cX7_tried 3 = .ok (.bipush 16, 2) := by decide +kernel
theorem dX7_tried_5 : decode cX7_tried 5 = .ok (.iconst 2, 1) := by decide +kernel
theorem dX7_tried_6 : decode cX7_tried 6 = .ok (.invokevirtual 259, 3) := by decide +kernel
theorem dX7_tried_9 : decode cX7_tried 9 = .ok (.aload_n 0, 1) := by decide +kernel
theorem dX7_tried_10 : decode cX7_tried 10 = .ok (.invokevirtual 263, 3) := by decide +kernel
theorem dX7_tried_13 : decode cX7_tried 13 = .ok (.aload_n 0, 1) := by decide +kernel
theorem dX7_tried_14 : decode cX7_tried 14 = .ok (.getfield 135, 3) := by decide +kernel
theorem dX7_tried_17 : decode cX7_tried 17 = .ok (.ifCond .ne 5, 3) := by decide +kernel
theorem dX7_tried_20 : decode cX7_tried 20 = .ok (.iconst 0, 1) := by decide +kernel
theorem dX7_tried_21 : decode cX7_tried 21 = .ok (.ireturn, 1) := by decide +kernel
theorem dX7_tried_22 : decode cX7_tried 22 = .ok (.aload_n 0, 1) := by decide +kernel
theorem dX7_tried_23 : decode cX7_tried 23 = .ok (.lload_n 1, 1) := by decide +kernel
theorem dX7_tried_24 : decode cX7_tried 24 = .ok (.invokevirtual 266, 3) := by decide +kernel
theorem dX7_tried_27 : decode cX7_tried 27 = .ok (.ifCond .eq 74, 3) := by decide +kernel
theorem dX7_tried_30 : decode cX7_tried 30 = .ok (.aload_n 0, 1) := by decide +kernel
theorem dX7_tried_31 : decode cX7_tried 31 = .ok (.bipush 20, 2) := by decide +kernel
theorem dX7_tried_33 : decode cX7_tried 33 = .ok (.invokevirtual 251, 3) := by decide +kernel
theorem dX7_tried_36 : decode cX7_tried 36 = .ok (.bipush 17, 2) := by decide +kernel
theorem dX7_tried_38 : decode cX7_tried 38 = .ok (.if_icmp .ne 63, 3) := by decide +kernel
theorem dX7_tried_41 : decode cX7_tried 41 = .ok (.aload_n 0, 1) := by decide +kernel
theorem dX7_tried_42 : decode cX7_tried 42 = .ok (.bipush 21, 2) := by decide +kernel
theorem dX7_tried_44 : decode cX7_tried 44 = .ok (.invokevirtual 251, 3) := by decide +kernel
theorem dX7_tried_47 : decode cX7_tried 47 = .ok (.sipush 256, 3) := by decide +kernel
theorem dX7_tried_50 : decode cX7_tried 50 = .ok (.imul, 1) := by decide +kernel
theorem dX7_tried_51 : decode cX7_tried 51 = .ok (.aload_n 0, 1) := by decide +kernel
theorem dX7_tried_52 : decode cX7_tried 52 = .ok (.bipush 22, 2) := by decide +kernel
theorem dX7_tried_54 : decode cX7_tried 54 = .ok (.invokevirtual 251, 3) := by decide +kernel
theorem dX7_tried_57 : decode cX7_tried 57 = .ok (.iadd, 1) := by decide +kernel
theorem dX7_tried_58 : decode cX7_tried 58 = .ok (.iconst 2, 1) := by decide +kernel
theorem dX7_tried_59 : decode cX7_tried 59 = .ok (.if_icmp .ne 42, 3) := by decide +kernel
theorem dX7_tried_62 : decode cX7_tried 62 = .ok (.aload_n 0, 1) := by decide +kernel
theorem dX7_tried_63 : decode cX7_tried 63 = .ok (.bipush 16, 2) := by decide +kernel
theorem dX7_tried_65 : decode cX7_tried 65 = .ok (.invokevirtual 251, 3) := by decide +kernel
theorem dX7_tried_68 : decode cX7_tried 68 = .ok (.ifCond .ne 33, 3) := by decide +kernel
theorem dX7_tried_71 : decode cX7_tried 71 = .ok (.aload_n 0, 1) := by decide +kernel
theorem dX7_tried_72 : decode cX7_tried 72 = .ok (.lload_n 1, 1) := by decide +kernel
theorem dX7_tried_73 : decode cX7_tried 73 = .ok (.invokevirtual 294, 3) := by decide +kernel
theorem dX7_tried_76 : decode cX7_tried 76 = .ok (.ifCond .ne 23, 3) := by decide +kernel
theorem dX7_tried_79 : decode cX7_tried 79 = .ok (.aload_n 0, 1) := by decide +kernel
theorem dX7_tried_80 : decode cX7_tried 80 = .ok (.getfield 88, 3) := by decide +kernel
theorem dX7_tried_83 : decode cX7_tried 83 = .ok (.aload_n 0, 1) := by decide +kernel
theorem dX7_tried_84 : decode cX7_tried 84 = .ok (.getfield 284, 3) := by decide +kernel
theorem dX7_tried_87 : decode cX7_tried 87 = .ok (.lload_n 1, 1) := by decide +kernel
theorem dX7_tried_88 : decode cX7_tried 88 = .ok (.lastore, 1) := by decide +kernel
theorem dX7_tried_89 : decode cX7_tried 89 = .ok (.aload_n 0, 1) := by decide +kernel
theorem dX7_tried_90 : decode cX7_tried 90 = .ok (.dup, 1) := by decide +kernel
theorem dX7_tried_91 : decode cX7_tried 91 = .ok (.getfield 284, 3) := by decide +kernel
theorem dX7_tried_94 : decode cX7_tried 94 = .ok (.iconst 1, 1) := by decide +kernel
theorem dX7_tried_95 : decode cX7_tried 95 = .ok (.iadd, 1) := by decide +kernel
theorem dX7_tried_96 : decode cX7_tried 96 = .ok (.putfield 284, 3) := by decide +kernel
theorem dX7_tried_99 : decode cX7_tried 99 = .ok (.iconst 1, 1) := by decide +kernel
theorem dX7_tried_100 : decode cX7_tried 100 = .ok (.ireturn, 1) := by decide +kernel
theorem dX7_tried_101 : decode cX7_tried 101 = .ok (.aload_n 0, 1) := by decide +kernel
theorem dX7_tried_102 : decode cX7_tried 102 = .ok (.lload_n 1, 1) := by decide +kernel
theorem dX7_tried_103 : decode cX7_tried 103 = .ok (.iconst 0, 1) := by decide +kernel
theorem dX7_tried_104 : decode cX7_tried 104 = .ok (.bipush 16, 2) := by decide +kernel
theorem dX7_tried_106 : decode cX7_tried 106 = .ok (.iconst 3, 1) := by decide +kernel
theorem dX7_tried_107 : decode cX7_tried 107 = .ok (.invokevirtual 259, 3) := by decide +kernel
theorem dX7_tried_110 : decode cX7_tried 110 = .ok (.aload_n 0, 1) := by decide +kernel
theorem dX7_tried_111 : decode cX7_tried 111 = .ok (.invokevirtual 263, 3) := by decide +kernel
theorem dX7_tried_114 : decode cX7_tried 114 = .ok (.iconst 2, 1) := by decide +kernel
theorem dX7_tried_115 : decode cX7_tried 115 = .ok (.ireturn, 1) := by decide +kernel
theorem dX7_shown_0 : decode cX7_shown 0 = .ok (.aload_n 0, 1) := by decide +kernel
theorem dX7_shown_1 : decode cX7_shown 1 = .ok (.getfield 135, 3) := by decide +kernel
theorem dX7_shown_4 : decode cX7_shown 4 = .ok (.bipush 24, 2) := by decide +kernel
theorem dX7_shown_6 : decode cX7_shown 6 = .ok (.if_icmp .eq 7, 3) := by decide +kernel
theorem dX7_shown_9 : decode cX7_shown 9 = .ok (.ldc2_w 297, 3) := by decide +kernel
theorem dX7_shown_12 : decode cX7_shown 12 = .ok (.lreturn, 1) := by decide +kernel
theorem dX7_shown_13 : decode cX7_shown 13 = .ok (.iconst 0, 1) := by decide +kernel
theorem dX7_shown_14 : decode cX7_shown 14 = .ok (.istore_n 1, 1) := by decide +kernel
theorem dX7_shown_15 : decode cX7_shown 15 = .ok (.iload_n 1, 1) := by decide +kernel
theorem dX7_shown_16 : decode cX7_shown 16 = .ok (.bipush 8, 2) := by decide +kernel
theorem dX7_shown_18 : decode cX7_shown 18 = .ok (.if_icmp .ge 36, 3) := by decide +kernel
theorem dX7_shown_21 : decode cX7_shown 21 = .ok (.aload_n 0, 1) := by decide +kernel
theorem dX7_shown_22 : decode cX7_shown 22 = .ok (.iload_n 1, 1) := by decide +kernel
theorem dX7_shown_23 : decode cX7_shown 23 = .ok (.invokevirtual 251, 3) := by decide +kernel
theorem dX7_shown_26 : decode cX7_shown 26 = .ok (.iload_n 1, 1) := by decide +kernel
theorem dX7_shown_27 : decode cX7_shown 27 = .ok (.bipush 7, 2) := by decide +kernel
theorem dX7_shown_29 : decode cX7_shown 29 = .ok (.if_icmp .ge 9, 3) := by decide +kernel
theorem dX7_shown_32 : decode cX7_shown 32 = .ok (.sipush 254, 3) := by decide +kernel
theorem dX7_shown_35 : decode cX7_shown 35 = .ok (.goto 6, 3) := by decide +kernel
theorem dX7_shown_38 : decode cX7_shown 38 = .ok (.sipush 170, 3) := by decide +kernel
theorem dX7_shown_41 : decode cX7_shown 41 = .ok (.if_icmp .eq 7, 3) := by decide +kernel
theorem dX7_shown_44 : decode cX7_shown 44 = .ok (.ldc2_w 297, 3) := by decide +kernel
theorem dX7_shown_47 : decode cX7_shown 47 = .ok (.lreturn, 1) := by decide +kernel
theorem dX7_shown_48 : decode cX7_shown 48 = .ok (.iinc 1 1, 3) := by decide +kernel
theorem dX7_shown_51 : decode cX7_shown 51 = .ok (.goto (-36), 3) := by decide +kernel
theorem dX7_shown_54 : decode cX7_shown 54 = .ok (.lconst 0, 1) := by decide +kernel
theorem dX7_shown_55 : decode cX7_shown 55 = .ok (.lstore_n 1, 1) := by decide +kernel
theorem dX7_shown_56 : decode cX7_shown 56 = .ok (.iconst 0, 1) := by decide +kernel
theorem dX7_shown_57 : decode cX7_shown 57 = .ok (.istore_n 3, 1) := by decide +kernel
theorem dX7_shown_58 : decode cX7_shown 58 = .ok (.iconst 0, 1) := by decide +kernel
theorem dX7_shown_59 : decode cX7_shown 59 = .ok (.istore 4, 2) := by decide +kernel
theorem dX7_shown_61 : decode cX7_shown 61 = .ok (.bipush 8, 2) := by decide +kernel
theorem dX7_shown_63 : decode cX7_shown 63 = .ok (.istore 5, 2) := by decide +kernel
theorem dX7_shown_65 : decode cX7_shown 65 = .ok (.iload 5, 2) := by decide +kernel
theorem dX7_shown_67 : decode cX7_shown 67 = .ok (.bipush 24, 2) := by decide +kernel
theorem dX7_shown_69 : decode cX7_shown 69 = .ok (.if_icmp .ge 98, 3) := by decide +kernel
theorem dX7_shown_72 : decode cX7_shown 72 = .ok (.aload_n 0, 1) := by decide +kernel
theorem dX7_shown_73 : decode cX7_shown 73 = .ok (.iload 5, 2) := by decide +kernel
theorem dX7_shown_75 : decode cX7_shown 75 = .ok (.invokevirtual 251, 3) := by decide +kernel
theorem dX7_shown_78 : decode cX7_shown 78 = .ok (.istore 6, 2) := by decide +kernel
theorem dX7_shown_80 : decode cX7_shown 80 = .ok (.aload_n 0, 1) := by decide +kernel
theorem dX7_shown_81 : decode cX7_shown 81 = .ok (.iload 5, 2) := by decide +kernel
theorem dX7_shown_83 : decode cX7_shown 83 = .ok (.iconst 1, 1) := by decide +kernel
theorem dX7_shown_84 : decode cX7_shown 84 = .ok (.iadd, 1) := by decide +kernel
theorem dX7_shown_85 : decode cX7_shown 85 = .ok (.invokevirtual 251, 3) := by decide +kernel
theorem dX7_shown_88 : decode cX7_shown 88 = .ok (.istore 7, 2) := by decide +kernel
theorem dX7_shown_90 : decode cX7_shown 90 = .ok (.iload 6, 2) := by decide +kernel
theorem dX7_shown_92 : decode cX7_shown 92 = .ok (.sipush 170, 3) := by decide +kernel
theorem dX7_shown_95 : decode cX7_shown 95 = .ok (.iand, 1) := by decide +kernel
theorem dX7_shown_96 : decode cX7_shown 96 = .ok (.sipush 170, 3) := by decide +kernel
theorem dX7_shown_99 : decode cX7_shown 99 = .ok (.if_icmp .ne 13, 3) := by decide +kernel
theorem dX7_shown_102 : decode cX7_shown 102 = .ok (.iload 7, 2) := by decide +kernel
theorem dX7_shown_104 : decode cX7_shown 104 = .ok (.bipush 85, 2) := by decide +kernel
theorem dX7_shown_106 : decode cX7_shown 106 = .ok (.iand, 1) := by decide +kernel
theorem dX7_shown_107 : decode cX7_shown 107 = .ok (.bipush 85, 2) := by decide +kernel
theorem dX7_shown_109 : decode cX7_shown 109 = .ok (.if_icmp .eq 7, 3) := by decide +kernel
theorem dX7_shown_112 : decode cX7_shown 112 = .ok (.ldc2_w 297, 3) := by decide +kernel
theorem dX7_shown_115 : decode cX7_shown 115 = .ok (.lreturn, 1) := by decide +kernel
theorem dX7_shown_116 : decode cX7_shown 116 = .ok (.iload 5, 2) := by decide +kernel
theorem dX7_shown_118 : decode cX7_shown 118 = .ok (.bipush 20, 2) := by decide +kernel
theorem dX7_shown_120 : decode cX7_shown 120 = .ok (.if_icmp .ge 27, 3) := by decide +kernel
theorem dX7_shown_123 : decode cX7_shown 123 = .ok (.iload_n 3, 1) := by decide +kernel
theorem dX7_shown_124 : decode cX7_shown 124 = .ok (.iload 6, 2) := by decide +kernel
theorem dX7_shown_126 : decode cX7_shown 126 = .ok (.iadd, 1) := by decide +kernel
theorem dX7_shown_127 : decode cX7_shown 127 = .ok (.iload 7, 2) := by decide +kernel
theorem dX7_shown_129 : decode cX7_shown 129 = .ok (.iadd, 1) := by decide +kernel
theorem dX7_shown_130 : decode cX7_shown 130 = .ok (.istore_n 3, 1) := by decide +kernel
theorem dX7_shown_131 : decode cX7_shown 131 = .ok (.lload_n 1, 1) := by decide +kernel
theorem dX7_shown_132 : decode cX7_shown 132 = .ok (.ldc2_w 127, 3) := by decide +kernel
theorem dX7_shown_135 : decode cX7_shown 135 = .ok (.lmul, 1) := by decide +kernel
theorem dX7_shown_136 : decode cX7_shown 136 = .ok (.iload 6, 2) := by decide +kernel
theorem dX7_shown_138 : decode cX7_shown 138 = .ok (.iload 7, 2) := by decide +kernel
theorem dX7_shown_140 : decode cX7_shown 140 = .ok (.iand, 1) := by decide +kernel
theorem dX7_shown_141 : decode cX7_shown 141 = .ok (.i2l, 1) := by decide +kernel
theorem dX7_shown_142 : decode cX7_shown 142 = .ok (.ladd, 1) := by decide +kernel
theorem dX7_shown_143 : decode cX7_shown 143 = .ok (.lstore_n 1, 1) := by decide +kernel
theorem dX7_shown_144 : decode cX7_shown 144 = .ok (.goto 17, 3) := by decide +kernel
theorem dX7_shown_147 : decode cX7_shown 147 = .ok (.iload 4, 2) := by decide +kernel
theorem dX7_shown_149 : decode cX7_shown 149 = .ok (.sipush 256, 3) := by decide +kernel
theorem dX7_shown_152 : decode cX7_shown 152 = .ok (.imul, 1) := by decide +kernel
theorem dX7_shown_153 : decode cX7_shown 153 = .ok (.iload 6, 2) := by decide +kernel
theorem dX7_shown_155 : decode cX7_shown 155 = .ok (.iload 7, 2) := by decide +kernel
theorem dX7_shown_157 : decode cX7_shown 157 = .ok (.iand, 1) := by decide +kernel
theorem dX7_shown_158 : decode cX7_shown 158 = .ok (.iadd, 1) := by decide +kernel
theorem dX7_shown_159 : decode cX7_shown 159 = .ok (.istore 4, 2) := by decide +kernel
theorem dX7_shown_161 : decode cX7_shown 161 = .ok (.iinc 5 2, 3) := by decide +kernel
theorem dX7_shown_164 : decode cX7_shown 164 = .ok (.goto (-99), 3) := by decide +kernel
theorem dX7_shown_167 : decode cX7_shown 167 = .ok (.iload_n 3, 1) := by decide +kernel
theorem dX7_shown_168 : decode cX7_shown 168 = .ok (.ldc 176, 2) := by decide +kernel
theorem dX7_shown_170 : decode cX7_shown 170 = .ok (.irem, 1) := by decide +kernel
theorem dX7_shown_171 : decode cX7_shown 171 = .ok (.iload 4, 2) := by decide +kernel
theorem dX7_shown_173 : decode cX7_shown 173 = .ok (.if_icmp .ne 7, 3) := by decide +kernel
theorem dX7_shown_176 : decode cX7_shown 176 = .ok (.lload_n 1, 1) := by decide +kernel
theorem dX7_shown_177 : decode cX7_shown 177 = .ok (.goto 6, 3) := by decide +kernel
theorem dX7_shown_180 : decode cX7_shown 180 = .ok (.ldc2_w 297, 3) := by decide +kernel
theorem dX7_shown_183 : decode cX7_shown 183 = .ok (.lreturn, 1) := by decide +kernel
theorem dX7_isId_0 : decode cX7_isId 0 = .ok (.lload_n 0, 1) := by decide +kernel
theorem dX7_isId_1 : decode cX7_isId 1 = .ok (.ldc2_w 156, 3) := by decide +kernel
theorem dX7_isId_4 : decode cX7_isId 4 = .ok (.land, 1) := by decide +kernel
theorem dX7_isId_5 : decode cX7_isId 5 = .ok (.ldc2_w 156, 3) := by decide +kernel
theorem dX7_isId_8 : decode cX7_isId 8 = .ok (.lcmp, 1) := by decide +kernel
theorem dX7_isId_9 : decode cX7_isId 9 = .ok (.ifCond .eq 7, 3) := by decide +kernel
theorem dX7_isId_12 : decode cX7_isId 12 = .ok (.iconst 1, 1) := by decide +kernel
theorem dX7_isId_13 : decode cX7_isId 13 = .ok (.goto 4, 3) := by decide +kernel
theorem dX7_isId_16 : decode cX7_isId 16 = .ok (.iconst 0, 1) := by decide +kernel
theorem dX7_isId_17 : decode cX7_isId 17 = .ok (.ireturn, 1) := by decide +kernel
theorem dX7_stepOnce_0 : decode cX7_stepOnce 0 = .ok (.aload_n 0, 1) := by decide +kernel
theorem dX7_stepOnce_1 : decode cX7_stepOnce 1 = .ok (.dup, 1) := by decide +kernel
theorem dX7_stepOnce_2 : decode cX7_stepOnce 2 = .ok (.getfield 287, 3) := by decide +kernel
theorem dX7_stepOnce_5 : decode cX7_stepOnce 5 = .ok (.iconst 1, 1) := by decide +kernel
theorem dX7_stepOnce_6 : decode cX7_stepOnce 6 = .ok (.isub, 1) := by decide +kernel
theorem dX7_stepOnce_7 : decode cX7_stepOnce 7 = .ok (.putfield 287, 3) := by decide +kernel
theorem dX7_stepOnce_10 : decode cX7_stepOnce 10 = .ok (.aload_n 0, 1) := by decide +kernel
theorem dX7_stepOnce_11 : decode cX7_stepOnce 11 = .ok (.getfield 82, 3) := by decide +kernel
theorem dX7_stepOnce_14 : decode cX7_stepOnce 14 = .ok (.aload_n 0, 1) := by decide +kernel
theorem dX7_stepOnce_15 : decode cX7_stepOnce 15 = .ok (.getfield 287, 3) := by decide +kernel
theorem dX7_stepOnce_18 : decode cX7_stepOnce 18 = .ok (.laload, 1) := by decide +kernel
theorem dX7_stepOnce_19 : decode cX7_stepOnce 19 = .ok (.lstore_n 1, 1) := by decide +kernel
theorem dX7_stepOnce_20 : decode cX7_stepOnce 20 = .ok (.aload_n 0, 1) := by decide +kernel
theorem dX7_stepOnce_21 : decode cX7_stepOnce 21 = .ok (.getfield 85, 3) := by decide +kernel
theorem dX7_stepOnce_24 : decode cX7_stepOnce 24 = .ok (.aload_n 0, 1) := by decide +kernel
theorem dX7_stepOnce_25 : decode cX7_stepOnce 25 = .ok (.getfield 287, 3) := by decide +kernel
theorem dX7_stepOnce_28 : decode cX7_stepOnce 28 = .ok (.laload, 1) := by decide +kernel
theorem dX7_stepOnce_29 : decode cX7_stepOnce 29 = .ok (.lstore_n 3, 1) := by decide +kernel
theorem dX7_stepOnce_30 : decode cX7_stepOnce 30 = .ok (.aload_n 0, 1) := by decide +kernel
theorem dX7_stepOnce_31 : decode cX7_stepOnce 31 = .ok (.dup, 1) := by decide +kernel
theorem dX7_stepOnce_32 : decode cX7_stepOnce 32 = .ok (.getfield 281, 3) := by decide +kernel
theorem dX7_stepOnce_35 : decode cX7_stepOnce 35 = .ok (.iconst 1, 1) := by decide +kernel
theorem dX7_stepOnce_36 : decode cX7_stepOnce 36 = .ok (.iadd, 1) := by decide +kernel
theorem dX7_stepOnce_37 : decode cX7_stepOnce 37 = .ok (.putfield 281, 3) := by decide +kernel
theorem dX7_stepOnce_40 : decode cX7_stepOnce 40 = .ok (.lload_n 1, 1) := by decide +kernel
theorem dX7_stepOnce_41 : decode cX7_stepOnce 41 = .ok (.lload_n 3, 1) := by decide +kernel
theorem dX7_stepOnce_42 : decode cX7_stepOnce 42 = .ok (.lcmp, 1) := by decide +kernel
theorem dX7_stepOnce_43 : decode cX7_stepOnce 43 = .ok (.ifCond .ne 26, 3) := by decide +kernel
theorem dX7_stepOnce_46 : decode cX7_stepOnce 46 = .ok (.lload_n 1, 1) := by decide +kernel
theorem dX7_stepOnce_47 : decode cX7_stepOnce 47 = .ok (.invokestatic 299, 3) := by decide +kernel
theorem dX7_stepOnce_50 : decode cX7_stepOnce 50 = .ok (.ifCond .eq 18, 3) := by decide +kernel
theorem dX7_stepOnce_53 : decode cX7_stepOnce 53 = .ok (.aload_n 0, 1) := by decide +kernel
theorem dX7_stepOnce_54 : decode cX7_stepOnce 54 = .ok (.lload_n 1, 1) := by decide +kernel
theorem dX7_stepOnce_55 : decode cX7_stepOnce 55 = .ok (.invokevirtual 302, 3) := by decide +kernel
theorem dX7_stepOnce_58 : decode cX7_stepOnce 58 = .ok (.iconst 2, 1) := by decide +kernel
theorem dX7_stepOnce_59 : decode cX7_stepOnce 59 = .ok (.if_icmp .ne 9, 3) := by decide +kernel
theorem dX7_stepOnce_62 : decode cX7_stepOnce 62 = .ok (.aload_n 0, 1) := by decide +kernel
theorem dX7_stepOnce_63 : decode cX7_stepOnce 63 = .ok (.lload_n 1, 1) := by decide +kernel
theorem dX7_stepOnce_64 : decode cX7_stepOnce 64 = .ok (.lload_n 3, 1) := by decide +kernel
theorem dX7_stepOnce_65 : decode cX7_stepOnce 65 = .ok (.invokevirtual 306, 3) := by decide +kernel
theorem dX7_stepOnce_68 : decode cX7_stepOnce 68 = .ok (.return_, 1) := by decide +kernel
theorem dX7_stepOnce_69 : decode cX7_stepOnce 69 = .ok (.aload_n 0, 1) := by decide +kernel
theorem dX7_stepOnce_70 : decode cX7_stepOnce 70 = .ok (.ldc2_w 292, 3) := by decide +kernel
theorem dX7_stepOnce_73 : decode cX7_stepOnce 73 = .ok (.iconst 0, 1) := by decide +kernel
theorem dX7_stepOnce_74 : decode cX7_stepOnce 74 = .ok (.bipush 16, 2) := by decide +kernel
theorem dX7_stepOnce_76 : decode cX7_stepOnce 76 = .ok (.iconst 1, 1) := by decide +kernel
theorem dX7_stepOnce_77 : decode cX7_stepOnce 77 = .ok (.invokevirtual 259, 3) := by decide +kernel
theorem dX7_stepOnce_80 : decode cX7_stepOnce 80 = .ok (.aload_n 0, 1) := by decide +kernel
theorem dX7_stepOnce_81 : decode cX7_stepOnce 81 = .ok (.lload_n 1, 1) := by decide +kernel
theorem dX7_stepOnce_82 : decode cX7_stepOnce 82 = .ok (.invokevirtual 248, 3) := by decide +kernel
theorem dX7_stepOnce_85 : decode cX7_stepOnce 85 = .ok (.aload_n 0, 1) := by decide +kernel
theorem dX7_stepOnce_86 : decode cX7_stepOnce 86 = .ok (.lload_n 3, 1) := by decide +kernel
theorem dX7_stepOnce_87 : decode cX7_stepOnce 87 = .ok (.invokevirtual 248, 3) := by decide +kernel
theorem dX7_stepOnce_90 : decode cX7_stepOnce 90 = .ok (.aload_n 0, 1) := by decide +kernel
theorem dX7_stepOnce_91 : decode cX7_stepOnce 91 = .ok (.invokevirtual 263, 3) := by decide +kernel
theorem dX7_stepOnce_94 : decode cX7_stepOnce 94 = .ok (.aload_n 0, 1) := by decide +kernel
theorem dX7_stepOnce_95 : decode cX7_stepOnce 95 = .ok (.getfield 135, 3) := by decide +kernel
theorem dX7_stepOnce_98 : decode cX7_stepOnce 98 = .ok (.ifCond .ne 4, 3) := by decide +kernel
theorem dX7_stepOnce_101 : decode cX7_stepOnce 101 = .ok (.return_, 1) := by decide +kernel
theorem dX7_stepOnce_102 : decode cX7_stepOnce 102 = .ok (.aload_n 0, 1) := by decide +kernel
theorem dX7_stepOnce_103 : decode cX7_stepOnce 103 = .ok (.invokevirtual 310, 3) := by decide +kernel
theorem dX7_stepOnce_106 : decode cX7_stepOnce 106 = .ok (.lstore 5, 2) := by decide +kernel
theorem dX7_stepOnce_108 : decode cX7_stepOnce 108 = .ok (.lload 5, 2) := by decide +kernel
theorem dX7_stepOnce_110 : decode cX7_stepOnce 110 = .ok (.lload_n 1, 1) := by decide +kernel
theorem dX7_stepOnce_111 : decode cX7_stepOnce 111 = .ok (.lcmp, 1) := by decide +kernel
theorem dX7_stepOnce_112 : decode cX7_stepOnce 112 = .ok (.ifCond .lt 43, 3) := by decide +kernel
theorem dX7_stepOnce_115 : decode cX7_stepOnce 115 = .ok (.lload 5, 2) := by decide +kernel
theorem dX7_stepOnce_117 : decode cX7_stepOnce 117 = .ok (.lload_n 3, 1) := by decide +kernel
theorem dX7_stepOnce_118 : decode cX7_stepOnce 118 = .ok (.lcmp, 1) := by decide +kernel
theorem dX7_stepOnce_119 : decode cX7_stepOnce 119 = .ok (.ifCond .gt 36, 3) := by decide +kernel
theorem dX7_stepOnce_122 : decode cX7_stepOnce 122 = .ok (.lload 5, 2) := by decide +kernel
theorem dX7_stepOnce_124 : decode cX7_stepOnce 124 = .ok (.invokestatic 299, 3) := by decide +kernel
theorem dX7_stepOnce_127 : decode cX7_stepOnce 127 = .ok (.ifCond .eq 28, 3) := by decide +kernel
theorem dX7_stepOnce_130 : decode cX7_stepOnce 130 = .ok (.aload_n 0, 1) := by decide +kernel
theorem dX7_stepOnce_131 : decode cX7_stepOnce 131 = .ok (.lload 5, 2) := by decide +kernel
theorem dX7_stepOnce_133 : decode cX7_stepOnce 133 = .ok (.invokevirtual 294, 3) := by decide +kernel
theorem dX7_stepOnce_136 : decode cX7_stepOnce 136 = .ok (.ifCond .ne 19, 3) := by decide +kernel
theorem dX7_stepOnce_139 : decode cX7_stepOnce 139 = .ok (.aload_n 0, 1) := by decide +kernel
theorem dX7_stepOnce_140 : decode cX7_stepOnce 140 = .ok (.lload 5, 2) := by decide +kernel
theorem dX7_stepOnce_142 : decode cX7_stepOnce 142 = .ok (.invokevirtual 302, 3) := by decide +kernel
theorem dX7_stepOnce_145 : decode cX7_stepOnce 145 = .ok (.ifCond .eq 10, 3) := by decide +kernel
theorem dX7_stepOnce_148 : decode cX7_stepOnce 148 = .ok (.aload_n 0, 1) := by decide +kernel
theorem dX7_stepOnce_149 : decode cX7_stepOnce 149 = .ok (.lload_n 1, 1) := by decide +kernel
theorem dX7_stepOnce_150 : decode cX7_stepOnce 150 = .ok (.lload_n 3, 1) := by decide +kernel
theorem dX7_stepOnce_151 : decode cX7_stepOnce 151 = .ok (.invokevirtual 306, 3) := by decide +kernel
theorem dX7_stepOnce_154 : decode cX7_stepOnce 154 = .ok (.return_, 1) := by decide +kernel
theorem dX7_stepOnce_155 : decode cX7_stepOnce 155 = .ok (.lload_n 1, 1) := by decide +kernel
theorem dX7_stepOnce_156 : decode cX7_stepOnce 156 = .ok (.lload_n 3, 1) := by decide +kernel
theorem dX7_stepOnce_157 : decode cX7_stepOnce 157 = .ok (.ladd, 1) := by decide +kernel
theorem dX7_stepOnce_158 : decode cX7_stepOnce 158 = .ok (.ldc2_w 314, 3) := by decide +kernel
theorem dX7_stepOnce_161 : decode cX7_stepOnce 161 = .ok (.ldiv, 1) := by decide +kernel
theorem dX7_stepOnce_162 : decode cX7_stepOnce 162 = .ok (.lstore 7, 2) := by decide +kernel
theorem dX7_stepOnce_164 : decode cX7_stepOnce 164 = .ok (.aload_n 0, 1) := by decide +kernel
theorem dX7_stepOnce_165 : decode cX7_stepOnce 165 = .ok (.lload 7, 2) := by decide +kernel
theorem dX7_stepOnce_167 : decode cX7_stepOnce 167 = .ok (.lconst 1, 1) := by decide +kernel
theorem dX7_stepOnce_168 : decode cX7_stepOnce 168 = .ok (.ladd, 1) := by decide +kernel
theorem dX7_stepOnce_169 : decode cX7_stepOnce 169 = .ok (.lload_n 3, 1) := by decide +kernel
theorem dX7_stepOnce_170 : decode cX7_stepOnce 170 = .ok (.invokevirtual 306, 3) := by decide +kernel
theorem dX7_stepOnce_173 : decode cX7_stepOnce 173 = .ok (.aload_n 0, 1) := by decide +kernel
theorem dX7_stepOnce_174 : decode cX7_stepOnce 174 = .ok (.lload_n 1, 1) := by decide +kernel
theorem dX7_stepOnce_175 : decode cX7_stepOnce 175 = .ok (.lload 7, 2) := by decide +kernel
theorem dX7_stepOnce_177 : decode cX7_stepOnce 177 = .ok (.invokevirtual 306, 3) := by decide +kernel
theorem dX7_stepOnce_180 : decode cX7_stepOnce 180 = .ok (.return_, 1) := by decide +kernel
theorem dX7_step_0 : decode cX7_step 0 = .ok (.aload_n 0, 1) := by decide +kernel
theorem dX7_step_1 : decode cX7_step 1 = .ok (.aload_n 0, 1) := by decide +kernel
theorem dX7_step_2 : decode cX7_step 2 = .ok (.getfield 277, 3) := by decide +kernel
theorem dX7_step_5 : decode cX7_step 5 = .ok (.ifCond .ne 7, 3) := by decide +kernel
theorem dX7_step_8 : decode cX7_step 8 = .ok (.iconst 1, 1) := by decide +kernel
theorem dX7_step_9 : decode cX7_step 9 = .ok (.goto 20, 3) := by decide +kernel
theorem dX7_step_12 : decode cX7_step 12 = .ok (.iload_n 1, 1) := by decide +kernel
theorem dX7_step_13 : decode cX7_step 13 = .ok (.i2l, 1) := by decide +kernel
theorem dX7_step_14 : decode cX7_step 14 = .ok (.lconst 1, 1) := by decide +kernel
theorem dX7_step_15 : decode cX7_step 15 = .ok (.ldc2_w 316, 3) := by decide +kernel
theorem dX7_step_18 : decode cX7_step 18 = .ok (.invokestatic 101, 3) := by decide +kernel
theorem dX7_step_21 : decode cX7_step 21 = .ok (.ifCond .ne 7, 3) := by decide +kernel
theorem dX7_step_24 : decode cX7_step 24 = .ok (.iconst 2, 1) := by decide +kernel
theorem dX7_step_25 : decode cX7_step 25 = .ok (.goto 4, 3) := by decide +kernel
theorem dX7_step_28 : decode cX7_step 28 = .ok (.iconst 0, 1) := by decide +kernel
theorem dX7_step_29 : decode cX7_step 29 = .ok (.putfield 91, 3) := by decide +kernel
theorem dX7_step_32 : decode cX7_step 32 = .ok (.aload_n 0, 1) := by decide +kernel
theorem dX7_step_33 : decode cX7_step 33 = .ok (.getfield 91, 3) := by decide +kernel
theorem dX7_step_36 : decode cX7_step 36 = .ok (.ifCond .le 5, 3) := by decide +kernel
theorem dX7_step_39 : decode cX7_step 39 = .ok (.iconst 0, 1) := by decide +kernel
theorem dX7_step_40 : decode cX7_step 40 = .ok (.ireturn, 1) := by decide +kernel
theorem dX7_step_41 : decode cX7_step 41 = .ok (.iconst 0, 1) := by decide +kernel
theorem dX7_step_42 : decode cX7_step 42 = .ok (.istore_n 2, 1) := by decide +kernel
theorem dX7_step_43 : decode cX7_step 43 = .ok (.iload_n 2, 1) := by decide +kernel
theorem dX7_step_44 : decode cX7_step 44 = .ok (.iload_n 1, 1) := by decide +kernel
theorem dX7_step_45 : decode cX7_step 45 = .ok (.if_icmp .ge 20, 3) := by decide +kernel
theorem dX7_step_48 : decode cX7_step 48 = .ok (.aload_n 0, 1) := by decide +kernel
theorem dX7_step_49 : decode cX7_step 49 = .ok (.getfield 287, 3) := by decide +kernel
theorem dX7_step_52 : decode cX7_step 52 = .ok (.ifCond .le 13, 3) := by decide +kernel
theorem dX7_step_55 : decode cX7_step 55 = .ok (.aload_n 0, 1) := by decide +kernel
theorem dX7_step_56 : decode cX7_step 56 = .ok (.invokevirtual 318, 3) := by decide +kernel
theorem dX7_step_59 : decode cX7_step 59 = .ok (.iinc 2 1, 3) := by decide +kernel
theorem dX7_step_62 : decode cX7_step 62 = .ok (.goto (-19), 3) := by decide +kernel
theorem dX7_step_65 : decode cX7_step 65 = .ok (.aload_n 0, 1) := by decide +kernel
theorem dX7_step_66 : decode cX7_step 66 = .ok (.getfield 287, 3) := by decide +kernel
theorem dX7_step_69 : decode cX7_step 69 = .ok (.ireturn, 1) := by decide +kernel
theorem dX7_found_0 : decode cX7_found 0 = .ok (.aload_n 0, 1) := by decide +kernel
theorem dX7_found_1 : decode cX7_found 1 = .ok (.iconst 0, 1) := by decide +kernel
theorem dX7_found_2 : decode cX7_found 2 = .ok (.putfield 91, 3) := by decide +kernel
theorem dX7_found_5 : decode cX7_found 5 = .ok (.aload_n 0, 1) := by decide +kernel
theorem dX7_found_6 : decode cX7_found 6 = .ok (.getfield 284, 3) := by decide +kernel
theorem dX7_found_9 : decode cX7_found 9 = .ok (.ireturn, 1) := by decide +kernel
theorem dX7_id_0 : decode cX7_id 0 = .ok (.aload_n 0, 1) := by decide +kernel
theorem dX7_id_1 : decode cX7_id 1 = .ok (.iload_n 1, 1) := by decide +kernel
theorem dX7_id_2 : decode cX7_id 2 = .ok (.i2l, 1) := by decide +kernel
theorem dX7_id_3 : decode cX7_id 3 = .ok (.lconst 0, 1) := by decide +kernel
theorem dX7_id_4 : decode cX7_id 4 = .ok (.aload_n 0, 1) := by decide +kernel
theorem dX7_id_5 : decode cX7_id 5 = .ok (.getfield 284, 3) := by decide +kernel
theorem dX7_id_8 : decode cX7_id 8 = .ok (.iconst 1, 1) := by decide +kernel
theorem dX7_id_9 : decode cX7_id 9 = .ok (.isub, 1) := by decide +kernel
theorem dX7_id_10 : decode cX7_id 10 = .ok (.i2l, 1) := by decide +kernel
theorem dX7_id_11 : decode cX7_id 11 = .ok (.invokestatic 101, 3) := by decide +kernel
theorem dX7_id_14 : decode cX7_id 14 = .ok (.invokevirtual 119, 3) := by decide +kernel
theorem dX7_id_17 : decode cX7_id 17 = .ok (.ifCond .eq 12, 3) := by decide +kernel
theorem dX7_id_20 : decode cX7_id 20 = .ok (.aload_n 0, 1) := by decide +kernel
theorem dX7_id_21 : decode cX7_id 21 = .ok (.getfield 88, 3) := by decide +kernel
theorem dX7_id_24 : decode cX7_id 24 = .ok (.iload_n 1, 1) := by decide +kernel
theorem dX7_id_25 : decode cX7_id 25 = .ok (.laload, 1) := by decide +kernel
theorem dX7_id_26 : decode cX7_id 26 = .ok (.goto 4, 3) := by decide +kernel
theorem dX7_id_29 : decode cX7_id 29 = .ok (.lconst 0, 1) := by decide +kernel
theorem dX7_id_30 : decode cX7_id 30 = .ok (.lreturn, 1) := by decide +kernel
theorem dX7_branch_0 : decode cX7_branch 0 = .ok (.aload_n 0, 1) := by decide +kernel
theorem dX7_branch_1 : decode cX7_branch 1 = .ok (.iload_n 1, 1) := by decide +kernel
theorem dX7_branch_2 : decode cX7_branch 2 = .ok (.iconst 2, 1) := by decide +kernel
theorem dX7_branch_3 : decode cX7_branch 3 = .ok (.if_icmp .eq 20, 3) := by decide +kernel
theorem dX7_branch_6 : decode cX7_branch 6 = .ok (.iload_n 1, 1) := by decide +kernel
theorem dX7_branch_7 : decode cX7_branch 7 = .ok (.i2l, 1) := by decide +kernel
theorem dX7_branch_8 : decode cX7_branch 8 = .ok (.lconst 0, 1) := by decide +kernel
theorem dX7_branch_9 : decode cX7_branch 9 = .ok (.lconst 1, 1) := by decide +kernel
theorem dX7_branch_10 : decode cX7_branch 10 = .ok (.invokestatic 101, 3) := by decide +kernel
theorem dX7_branch_13 : decode cX7_branch 13 = .ok (.ifCond .eq 14, 3) := by decide +kernel
theorem dX7_branch_16 : decode cX7_branch 16 = .ok (.aload_n 0, 1) := by decide +kernel
theorem dX7_branch_17 : decode cX7_branch 17 = .ok (.getfield 287, 3) := by decide +kernel
theorem dX7_branch_20 : decode cX7_branch 20 = .ok (.ifCond .le 7, 3) := by decide +kernel
theorem dX7_branch_23 : decode cX7_branch 23 = .ok (.iconst 1, 1) := by decide +kernel
theorem dX7_branch_24 : decode cX7_branch 24 = .ok (.goto 4, 3) := by decide +kernel
theorem dX7_branch_27 : decode cX7_branch 27 = .ok (.iconst 0, 1) := by decide +kernel
theorem dX7_branch_28 : decode cX7_branch 28 = .ok (.invokevirtual 119, 3) := by decide +kernel
theorem dX7_branch_31 : decode cX7_branch 31 = .ok (.ifCond .ne 5, 3) := by decide +kernel
theorem dX7_branch_34 : decode cX7_branch 34 = .ok (.lconst 0, 1) := by decide +kernel
theorem dX7_branch_35 : decode cX7_branch 35 = .ok (.lreturn, 1) := by decide +kernel
theorem dX7_branch_36 : decode cX7_branch 36 = .ok (.iload_n 1, 1) := by decide +kernel
theorem dX7_branch_37 : decode cX7_branch 37 = .ok (.iconst 2, 1) := by decide +kernel
theorem dX7_branch_38 : decode cX7_branch 38 = .ok (.if_icmp .ne 11, 3) := by decide +kernel
theorem dX7_branch_41 : decode cX7_branch 41 = .ok (.aload_n 0, 1) := by decide +kernel
theorem dX7_branch_42 : decode cX7_branch 42 = .ok (.getfield 281, 3) := by decide +kernel
theorem dX7_branch_45 : decode cX7_branch 45 = .ok (.i2l, 1) := by decide +kernel
theorem dX7_branch_46 : decode cX7_branch 46 = .ok (.goto 32, 3) := by decide +kernel
theorem dX7_branch_49 : decode cX7_branch 49 = .ok (.iload_n 1, 1) := by decide +kernel
theorem dX7_branch_50 : decode cX7_branch 50 = .ok (.ifCond .ne 17, 3) := by decide +kernel
theorem dX7_branch_53 : decode cX7_branch 53 = .ok (.aload_n 0, 1) := by decide +kernel
theorem dX7_branch_54 : decode cX7_branch 54 = .ok (.getfield 82, 3) := by decide +kernel
theorem dX7_branch_57 : decode cX7_branch 57 = .ok (.aload_n 0, 1) := by decide +kernel
theorem dX7_branch_58 : decode cX7_branch 58 = .ok (.getfield 287, 3) := by decide +kernel
theorem dX7_branch_61 : decode cX7_branch 61 = .ok (.iconst 1, 1) := by decide +kernel
theorem dX7_branch_62 : decode cX7_branch 62 = .ok (.isub, 1) := by decide +kernel
theorem dX7_branch_63 : decode cX7_branch 63 = .ok (.laload, 1) := by decide +kernel
theorem dX7_branch_64 : decode cX7_branch 64 = .ok (.goto 14, 3) := by decide +kernel
theorem dX7_branch_67 : decode cX7_branch 67 = .ok (.aload_n 0, 1) := by decide +kernel
theorem dX7_branch_68 : decode cX7_branch 68 = .ok (.getfield 85, 3) := by decide +kernel
theorem dX7_branch_71 : decode cX7_branch 71 = .ok (.aload_n 0, 1) := by decide +kernel
theorem dX7_branch_72 : decode cX7_branch 72 = .ok (.getfield 287, 3) := by decide +kernel
theorem dX7_branch_75 : decode cX7_branch 75 = .ok (.iconst 1, 1) := by decide +kernel
theorem dX7_branch_76 : decode cX7_branch 76 = .ok (.isub, 1) := by decide +kernel
theorem dX7_branch_77 : decode cX7_branch 77 = .ok (.laload, 1) := by decide +kernel
theorem dX7_branch_78 : decode cX7_branch 78 = .ok (.lreturn, 1) := by decide +kernel
end
section
theorem dL_lamp_0 : decode cL_lamp 0 = .ok (.aload 7, 2) := by decide +kernel
theorem dL_lamp_2 : decode cL_lamp 2 = .ok (.iconst 0, 1) := by decide +kernel
theorem dL_lamp_3 : decode cL_lamp 3 = .ok (.aload_n 0, 1) := by decide +kernel
theorem dL_lamp_4 : decode cL_lamp 4 = .ok (.iload_n 1, 1) := by decide +kernel
theorem dL_lamp_5 : decode cL_lamp 5 = .ok (.lload_n 2, 1) := by decide +kernel
theorem dL_lamp_6 : decode cL_lamp 6 = .ok (.iload 4, 2) := by decide +kernel
theorem dL_lamp_8 : decode cL_lamp 8 = .ok (.iload 5, 2) := by decide +kernel
theorem dL_lamp_10 : decode cL_lamp 10 = .ok (.iload 6, 2) := by decide +kernel
theorem dL_lamp_12 : decode cL_lamp 12 = .ok (.invokevirtual 7, 3) := by decide +kernel
theorem dL_lamp_15 : decode cL_lamp 15 = .ok (.i2l, 1) := by decide +kernel
theorem dL_lamp_16 : decode cL_lamp 16 = .ok (.lastore, 1) := by decide +kernel
theorem dL_lamp_17 : decode cL_lamp 17 = .ok (.goto 11, 3) := by decide +kernel
theorem dL_lamp_20 : decode cL_lamp 20 = .ok (.astore 8, 2) := by decide +kernel
theorem dL_lamp_22 : decode cL_lamp 22 = .ok (.iconst 1, 1) := by decide +kernel
theorem dL_lamp_23 : decode cL_lamp 23 = .ok (.ireturn, 1) := by decide +kernel
theorem dL_lamp_24 : decode cL_lamp 24 = .ok (.astore 8, 2) := by decide +kernel
theorem dL_lamp_26 : decode cL_lamp 26 = .ok (.iconst 2, 1) := by decide +kernel
theorem dL_lamp_27 : decode cL_lamp 27 = .ok (.ireturn, 1) := by decide +kernel
theorem dL_lamp_28 : decode cL_lamp 28 = .ok (.iconst 0, 1) := by decide +kernel
theorem dL_lamp_29 : decode cL_lamp 29 = .ok (.ireturn, 1) := by decide +kernel
theorem dL_feed_0 : decode cL_feed 0 = .ok (.aload 6, 2) := by decide +kernel
theorem dL_feed_2 : decode cL_feed 2 = .ok (.iconst 0, 1) := by decide +kernel
theorem dL_feed_3 : decode cL_feed 3 = .ok (.aload_n 0, 1) := by decide +kernel
theorem dL_feed_4 : decode cL_feed 4 = .ok (.iload_n 1, 1) := by decide +kernel
theorem dL_feed_5 : decode cL_feed 5 = .ok (.iload_n 2, 1) := by decide +kernel
theorem dL_feed_6 : decode cL_feed 6 = .ok (.iload_n 3, 1) := by decide +kernel
theorem dL_feed_7 : decode cL_feed 7 = .ok (.iload 4, 2) := by decide +kernel
theorem dL_feed_9 : decode cL_feed 9 = .ok (.iload 5, 2) := by decide +kernel
theorem dL_feed_11 : decode cL_feed 11 = .ok (.invokevirtual 17, 3) := by decide +kernel
theorem dL_feed_14 : decode cL_feed 14 = .ok (.i2l, 1) := by decide +kernel
theorem dL_feed_15 : decode cL_feed 15 = .ok (.lastore, 1) := by decide +kernel
theorem dL_feed_16 : decode cL_feed 16 = .ok (.goto 7, 3) := by decide +kernel
theorem dL_feed_19 : decode cL_feed 19 = .ok (.astore 7, 2) := by decide +kernel
theorem dL_feed_21 : decode cL_feed 21 = .ok (.iconst 1, 1) := by decide +kernel
theorem dL_feed_22 : decode cL_feed 22 = .ok (.ireturn, 1) := by decide +kernel
theorem dL_feed_23 : decode cL_feed 23 = .ok (.iconst 0, 1) := by decide +kernel
theorem dL_feed_24 : decode cL_feed 24 = .ok (.ireturn, 1) := by decide +kernel
theorem dL_end_0 : decode cL_end 0 = .ok (.aload_n 0, 1) := by decide +kernel
theorem dL_end_1 : decode cL_end 1 = .ok (.iload_n 1, 1) := by decide +kernel
theorem dL_end_2 : decode cL_end 2 = .ok (.invokevirtual 21, 3) := by decide +kernel
theorem dL_end_5 : decode cL_end 5 = .ok (.goto 6, 3) := by decide +kernel
theorem dL_end_8 : decode cL_end 8 = .ok (.astore_n 2, 1) := by decide +kernel
theorem dL_end_9 : decode cL_end 9 = .ok (.iconst 1, 1) := by decide +kernel
theorem dL_end_10 : decode cL_end 10 = .ok (.ireturn, 1) := by decide +kernel
theorem dL_end_11 : decode cL_end 11 = .ok (.iconst 0, 1) := by decide +kernel
theorem dL_end_12 : decode cL_end 12 = .ok (.ireturn, 1) := by decide +kernel
theorem dL_answer_0 : decode cL_answer 0 = .ok (.aload_n 2, 1) := by decide +kernel
theorem dL_answer_1 : decode cL_answer 1 = .ok (.iconst 0, 1) := by decide +kernel
theorem dL_answer_2 : decode cL_answer 2 = .ok (.aload_n 0, 1) := by decide +kernel
theorem dL_answer_3 : decode cL_answer 3 = .ok (.iload_n 1, 1) := by decide +kernel
theorem dL_answer_4 : decode cL_answer 4 = .ok (.invokevirtual 25, 3) := by decide +kernel
theorem dL_answer_7 : decode cL_answer 7 = .ok (.i2l, 1) := by decide +kernel
theorem dL_answer_8 : decode cL_answer 8 = .ok (.lastore, 1) := by decide +kernel
theorem dL_answer_9 : decode cL_answer 9 = .ok (.goto 6, 3) := by decide +kernel
theorem dL_answer_12 : decode cL_answer 12 = .ok (.astore_n 3, 1) := by decide +kernel
theorem dL_answer_13 : decode cL_answer 13 = .ok (.iconst 1, 1) := by decide +kernel
theorem dL_answer_14 : decode cL_answer 14 = .ok (.ireturn, 1) := by decide +kernel
theorem dL_answer_15 : decode cL_answer 15 = .ok (.iconst 0, 1) := by decide +kernel
theorem dL_answer_16 : decode cL_answer 16 = .ok (.ireturn, 1) := by decide +kernel
theorem dL_ask_0 : decode cL_ask 0 = .ok (.aload 7, 2) := by decide +kernel
theorem dL_ask_2 : decode cL_ask 2 = .ok (.iconst 0, 1) := by decide +kernel
theorem dL_ask_3 : decode cL_ask 3 = .ok (.aload_n 0, 1) := by decide +kernel
theorem dL_ask_4 : decode cL_ask 4 = .ok (.iload_n 1, 1) := by decide +kernel
theorem dL_ask_5 : decode cL_ask 5 = .ok (.lload_n 2, 1) := by decide +kernel
theorem dL_ask_6 : decode cL_ask 6 = .ok (.iload 4, 2) := by decide +kernel
theorem dL_ask_8 : decode cL_ask 8 = .ok (.iload 5, 2) := by decide +kernel
theorem dL_ask_10 : decode cL_ask 10 = .ok (.iload 6, 2) := by decide +kernel
theorem dL_ask_12 : decode cL_ask 12 = .ok (.invokevirtual 31, 3) := by decide +kernel
theorem dL_ask_15 : decode cL_ask 15 = .ok (.i2l, 1) := by decide +kernel
theorem dL_ask_16 : decode cL_ask 16 = .ok (.lastore, 1) := by decide +kernel
theorem dL_ask_17 : decode cL_ask 17 = .ok (.goto 7, 3) := by decide +kernel
theorem dL_ask_20 : decode cL_ask 20 = .ok (.astore 8, 2) := by decide +kernel
theorem dL_ask_22 : decode cL_ask 22 = .ok (.iconst 1, 1) := by decide +kernel
theorem dL_ask_23 : decode cL_ask 23 = .ok (.ireturn, 1) := by decide +kernel
theorem dL_ask_24 : decode cL_ask 24 = .ok (.iconst 0, 1) := by decide +kernel
theorem dL_ask_25 : decode cL_ask 25 = .ok (.ireturn, 1) := by decide +kernel
theorem dL_spoil_0 : decode cL_spoil 0 = .ok (.aload_n 0, 1) := by decide +kernel
theorem dL_spoil_1 : decode cL_spoil 1 = .ok (.iload_n 1, 1) := by decide +kernel
theorem dL_spoil_2 : decode cL_spoil 2 = .ok (.iload_n 2, 1) := by decide +kernel
theorem dL_spoil_3 : decode cL_spoil 3 = .ok (.invokevirtual 34, 3) := by decide +kernel
theorem dL_spoil_6 : decode cL_spoil 6 = .ok (.goto 6, 3) := by decide +kernel
theorem dL_spoil_9 : decode cL_spoil 9 = .ok (.astore_n 3, 1) := by decide +kernel
theorem dL_spoil_10 : decode cL_spoil 10 = .ok (.iconst 1, 1) := by decide +kernel
theorem dL_spoil_11 : decode cL_spoil 11 = .ok (.ireturn, 1) := by decide +kernel
theorem dL_spoil_12 : decode cL_spoil 12 = .ok (.iconst 0, 1) := by decide +kernel
theorem dL_spoil_13 : decode cL_spoil 13 = .ok (.ireturn, 1) := by decide +kernel
theorem dL_about_0 : decode cL_about 0 = .ok (.aload_n 3, 1) := by decide +kernel
theorem dL_about_1 : decode cL_about 1 = .ok (.iconst 0, 1) := by decide +kernel
theorem dL_about_2 : decode cL_about 2 = .ok (.aload_n 0, 1) := by decide +kernel
theorem dL_about_3 : decode cL_about 3 = .ok (.iload_n 1, 1) := by decide +kernel
theorem dL_about_4 : decode cL_about 4 = .ok (.iload_n 2, 1) := by decide +kernel
theorem dL_about_5 : decode cL_about 5 = .ok (.invokevirtual 38, 3) := by decide +kernel
theorem dL_about_8 : decode cL_about 8 = .ok (.i2l, 1) := by decide +kernel
theorem dL_about_9 : decode cL_about 9 = .ok (.lastore, 1) := by decide +kernel
theorem dL_about_10 : decode cL_about 10 = .ok (.goto 7, 3) := by decide +kernel
theorem dL_about_13 : decode cL_about 13 = .ok (.astore 4, 2) := by decide +kernel
theorem dL_about_15 : decode cL_about 15 = .ok (.iconst 1, 1) := by decide +kernel
theorem dL_about_16 : decode cL_about 16 = .ok (.ireturn, 1) := by decide +kernel
theorem dL_about_17 : decode cL_about 17 = .ok (.iconst 0, 1) := by decide +kernel
theorem dL_about_18 : decode cL_about 18 = .ok (.ireturn, 1) := by decide +kernel
theorem dL_rest_0 : decode cL_rest 0 = .ok (.aload_n 2, 1) := by decide +kernel
theorem dL_rest_1 : decode cL_rest 1 = .ok (.iconst 0, 1) := by decide +kernel
theorem dL_rest_2 : decode cL_rest 2 = .ok (.aload_n 0, 1) := by decide +kernel
theorem dL_rest_3 : decode cL_rest 3 = .ok (.iload_n 1, 1) := by decide +kernel
theorem dL_rest_4 : decode cL_rest 4 = .ok (.invokevirtual 42, 3) := by decide +kernel
theorem dL_rest_7 : decode cL_rest 7 = .ok (.lastore, 1) := by decide +kernel
theorem dL_rest_8 : decode cL_rest 8 = .ok (.goto 6, 3) := by decide +kernel
theorem dL_rest_11 : decode cL_rest 11 = .ok (.astore_n 3, 1) := by decide +kernel
theorem dL_rest_12 : decode cL_rest 12 = .ok (.iconst 1, 1) := by decide +kernel
theorem dL_rest_13 : decode cL_rest 13 = .ok (.ireturn, 1) := by decide +kernel
theorem dL_rest_14 : decode cL_rest 14 = .ok (.iconst 0, 1) := by decide +kernel
theorem dL_rest_15 : decode cL_rest 15 = .ok (.ireturn, 1) := by decide +kernel
theorem dL_level_0 : decode cL_level 0 = .ok (.aload_n 3, 1) := by decide +kernel
theorem dL_level_1 : decode cL_level 1 = .ok (.iconst 0, 1) := by decide +kernel
theorem dL_level_2 : decode cL_level 2 = .ok (.aload_n 0, 1) := by decide +kernel
theorem dL_level_3 : decode cL_level 3 = .ok (.iload_n 1, 1) := by decide +kernel
theorem dL_level_4 : decode cL_level 4 = .ok (.iload_n 2, 1) := by decide +kernel
theorem dL_level_5 : decode cL_level 5 = .ok (.invokevirtual 46, 3) := by decide +kernel
theorem dL_level_8 : decode cL_level 8 = .ok (.i2l, 1) := by decide +kernel
theorem dL_level_9 : decode cL_level 9 = .ok (.lastore, 1) := by decide +kernel
theorem dL_level_10 : decode cL_level 10 = .ok (.goto 7, 3) := by decide +kernel
theorem dL_level_13 : decode cL_level 13 = .ok (.astore 4, 2) := by decide +kernel
theorem dL_level_15 : decode cL_level 15 = .ok (.iconst 1, 1) := by decide +kernel
theorem dL_level_16 : decode cL_level 16 = .ok (.ireturn, 1) := by decide +kernel
theorem dL_level_17 : decode cL_level 17 = .ok (.iconst 0, 1) := by decide +kernel
theorem dL_level_18 : decode cL_level 18 = .ok (.ireturn, 1) := by decide +kernel
theorem dL_label_0 : decode cL_label 0 = .ok (.aload_n 3, 1) := by decide +kernel
theorem dL_label_1 : decode cL_label 1 = .ok (.iconst 0, 1) := by decide +kernel
theorem dL_label_2 : decode cL_label 2 = .ok (.aload_n 0, 1) := by decide +kernel
theorem dL_label_3 : decode cL_label 3 = .ok (.iload_n 1, 1) := by decide +kernel
theorem dL_label_4 : decode cL_label 4 = .ok (.iload_n 2, 1) := by decide +kernel
theorem dL_label_5 : decode cL_label 5 = .ok (.invokevirtual 49, 3) := by decide +kernel
theorem dL_label_8 : decode cL_label 8 = .ok (.i2l, 1) := by decide +kernel
theorem dL_label_9 : decode cL_label 9 = .ok (.lastore, 1) := by decide +kernel
theorem dL_label_10 : decode cL_label 10 = .ok (.goto 7, 3) := by decide +kernel
theorem dL_label_13 : decode cL_label 13 = .ok (.astore 4, 2) := by decide +kernel
theorem dL_label_15 : decode cL_label 15 = .ok (.iconst 1, 1) := by decide +kernel
theorem dL_label_16 : decode cL_label 16 = .ok (.ireturn, 1) := by decide +kernel
theorem dL_label_17 : decode cL_label 17 = .ok (.iconst 0, 1) := by decide +kernel
theorem dL_label_18 : decode cL_label 18 = .ok (.ireturn, 1) := by decide +kernel
theorem dL_silence_0 : decode cL_silence 0 = .ok (.aload_n 3, 1) := by decide +kernel
theorem dL_silence_1 : decode cL_silence 1 = .ok (.iconst 0, 1) := by decide +kernel
theorem dL_silence_2 : decode cL_silence 2 = .ok (.aload_n 0, 1) := by decide +kernel
theorem dL_silence_3 : decode cL_silence 3 = .ok (.iload_n 1, 1) := by decide +kernel
theorem dL_silence_4 : decode cL_silence 4 = .ok (.iload_n 2, 1) := by decide +kernel
theorem dL_silence_5 : decode cL_silence 5 = .ok (.invokevirtual 52, 3) := by decide +kernel
theorem dL_silence_8 : decode cL_silence 8 = .ok (.i2l, 1) := by decide +kernel
theorem dL_silence_9 : decode cL_silence 9 = .ok (.lastore, 1) := by decide +kernel
theorem dL_silence_10 : decode cL_silence 10 = .ok (.goto 7, 3) := by decide +kernel
theorem dL_silence_13 : decode cL_silence 13 = .ok (.astore 4, 2) := by decide +kernel
theorem dL_silence_15 : decode cL_silence 15 = .ok (.iconst 1, 1) := by decide +kernel
theorem dL_silence_16 : decode cL_silence 16 = .ok (.ireturn, 1) := by decide +kernel
theorem dL_silence_17 : decode cL_silence 17 = .ok (.iconst 0, 1) := by decide +kernel
theorem dL_silence_18 : decode cL_silence 18 = .ok (.ireturn, 1) := by decide +kernel
theorem dL_step_0 : decode cL_step 0 = .ok (.aload_n 2, 1) := by decide +kernel
theorem dL_step_1 : decode cL_step 1 = .ok (.iconst 0, 1) := by decide +kernel
theorem dL_step_2 : decode cL_step 2 = .ok (.aload_n 0, 1) := by decide +kernel
theorem dL_step_3 : decode cL_step 3 = .ok (.iload_n 1, 1) := by decide +kernel
theorem dL_step_4 : decode cL_step 4 = .ok (.invokevirtual 56, 3) := by decide +kernel
theorem dL_step_7 : decode cL_step 7 = .ok (.i2l, 1) := by decide +kernel
theorem dL_step_8 : decode cL_step 8 = .ok (.lastore, 1) := by decide +kernel
theorem dL_step_9 : decode cL_step 9 = .ok (.goto 9, 3) := by decide +kernel
theorem dL_step_12 : decode cL_step 12 = .ok (.astore_n 3, 1) := by decide +kernel
theorem dL_step_13 : decode cL_step 13 = .ok (.iconst 1, 1) := by decide +kernel
theorem dL_step_14 : decode cL_step 14 = .ok (.ireturn, 1) := by decide +kernel
theorem dL_step_15 : decode cL_step 15 = .ok (.astore_n 3, 1) := by decide +kernel
theorem dL_step_16 : decode cL_step 16 = .ok (.iconst 2, 1) := by decide +kernel
theorem dL_step_17 : decode cL_step 17 = .ok (.ireturn, 1) := by decide +kernel
theorem dL_step_18 : decode cL_step 18 = .ok (.iconst 0, 1) := by decide +kernel
theorem dL_step_19 : decode cL_step 19 = .ok (.ireturn, 1) := by decide +kernel
theorem dL_id_0 : decode cL_id 0 = .ok (.aload_n 2, 1) := by decide +kernel
theorem dL_id_1 : decode cL_id 1 = .ok (.iconst 0, 1) := by decide +kernel
theorem dL_id_2 : decode cL_id 2 = .ok (.aload_n 0, 1) := by decide +kernel
theorem dL_id_3 : decode cL_id 3 = .ok (.iload_n 1, 1) := by decide +kernel
theorem dL_id_4 : decode cL_id 4 = .ok (.invokevirtual 59, 3) := by decide +kernel
theorem dL_id_7 : decode cL_id 7 = .ok (.lastore, 1) := by decide +kernel
theorem dL_id_8 : decode cL_id 8 = .ok (.goto 6, 3) := by decide +kernel
theorem dL_id_11 : decode cL_id 11 = .ok (.astore_n 3, 1) := by decide +kernel
theorem dL_id_12 : decode cL_id 12 = .ok (.iconst 1, 1) := by decide +kernel
theorem dL_id_13 : decode cL_id 13 = .ok (.ireturn, 1) := by decide +kernel
theorem dL_id_14 : decode cL_id 14 = .ok (.iconst 0, 1) := by decide +kernel
theorem dL_id_15 : decode cL_id 15 = .ok (.ireturn, 1) := by decide +kernel
theorem dL_branch_0 : decode cL_branch 0 = .ok (.aload_n 2, 1) := by decide +kernel
theorem dL_branch_1 : decode cL_branch 1 = .ok (.iconst 0, 1) := by decide +kernel
theorem dL_branch_2 : decode cL_branch 2 = .ok (.aload_n 0, 1) := by decide +kernel
theorem dL_branch_3 : decode cL_branch 3 = .ok (.iload_n 1, 1) := by decide +kernel
theorem dL_branch_4 : decode cL_branch 4 = .ok (.invokevirtual 62, 3) := by decide +kernel
theorem dL_branch_7 : decode cL_branch 7 = .ok (.lastore, 1) := by decide +kernel
theorem dL_branch_8 : decode cL_branch 8 = .ok (.goto 6, 3) := by decide +kernel
theorem dL_branch_11 : decode cL_branch 11 = .ok (.astore_n 3, 1) := by decide +kernel
theorem dL_branch_12 : decode cL_branch 12 = .ok (.iconst 1, 1) := by decide +kernel
theorem dL_branch_13 : decode cL_branch 13 = .ok (.ireturn, 1) := by decide +kernel
theorem dL_branch_14 : decode cL_branch 14 = .ok (.iconst 0, 1) := by decide +kernel
theorem dL_branch_15 : decode cL_branch 15 = .ok (.ireturn, 1) := by decide +kernel
theorem dL_law_0 : decode cL_law 0 = .ok (.new 8, 3) := by decide +kernel
theorem dL_law_3 : decode cL_law 3 = .ok (.dup, 1) := by decide +kernel
theorem dL_law_4 : decode cL_law 4 = .ok (.invokespecial 65, 3) := by decide +kernel
theorem dL_law_7 : decode cL_law 7 = .ok (.astore_n 1, 1) := by decide +kernel
theorem dL_law_8 : decode cL_law 8 = .ok (.new 66, 3) := by decide +kernel
theorem dL_law_11 : decode cL_law 11 = .ok (.dup, 1) := by decide +kernel
theorem dL_law_12 : decode cL_law 12 = .ok (.invokespecial 68, 3) := by decide +kernel
theorem dL_law_15 : decode cL_law 15 = .ok (.astore_n 2, 1) := by decide +kernel
theorem dL_law_16 : decode cL_law 16 = .ok (.iconst 1, 1) := by decide +kernel
theorem dL_law_17 : decode cL_law 17 = .ok (.newarray .long, 2) := by decide +kernel
theorem dL_law_19 : decode cL_law 19 = .ok (.astore_n 3, 1) := by decide +kernel
theorem dL_law_20 : decode cL_law 20 = .ok (.iconst 0, 1) := by decide +kernel
theorem dL_law_21 : decode cL_law 21 = .ok (.istore 4, 2) := by decide +kernel
theorem dL_law_23 : decode cL_law 23 = .ok (.iload 4, 2) := by decide +kernel
theorem dL_law_25 : decode cL_law 25 = .ok (.aload_n 0, 1) := by decide +kernel
theorem dL_law_26 : decode cL_law 26 = .ok (.arraylength, 1) := by decide +kernel
theorem dL_law_27 : decode cL_law 27 = .ok (.bipush 7, 2) := by decide +kernel
theorem dL_law_29 : decode cL_law 29 = .ok (.isub, 1) := by decide +kernel
theorem dL_law_30 : decode cL_law 30 = .ok (.if_icmp .gt 1185, 3) := by decide +kernel
theorem dL_law_33 : decode cL_law 33 = .ok (.aload_n 0, 1) := by decide +kernel
theorem dL_law_34 : decode cL_law 34 = .ok (.iload 4, 2) := by decide +kernel
theorem dL_law_36 : decode cL_law 36 = .ok (.iaload, 1) := by decide +kernel
theorem dL_law_37 : decode cL_law 37 = .ok (.bipush 31, 2) := by decide +kernel
theorem dL_law_39 : decode cL_law 39 = .ok (.iand, 1) := by decide +kernel
theorem dL_law_40 : decode cL_law 40 = .ok (.tableswitch 1169 0 17 #[88, 226, 330, 366, 379, 435, 573, 621, 634, 702, 757, 825, 893, 977, 990, 1046, 1059, 1114], 88) := by decide +kernel
theorem dL_law_128 : decode cL_law 128 = .ok (.aload_n 1, 1) := by decide +kernel
theorem dL_law_129 : decode cL_law 129 = .ok (.aload_n 0, 1) := by decide +kernel
theorem dL_law_130 : decode cL_law 130 = .ok (.iload 4, 2) := by decide +kernel
theorem dL_law_132 : decode cL_law 132 = .ok (.iconst 1, 1) := by decide +kernel
theorem dL_law_133 : decode cL_law 133 = .ok (.iadd, 1) := by decide +kernel
theorem dL_law_134 : decode cL_law 134 = .ok (.iaload, 1) := by decide +kernel
theorem dL_law_135 : decode cL_law 135 = .ok (.aload_n 0, 1) := by decide +kernel
theorem dL_law_136 : decode cL_law 136 = .ok (.iload 4, 2) := by decide +kernel
theorem dL_law_138 : decode cL_law 138 = .ok (.iconst 2, 1) := by decide +kernel
theorem dL_law_139 : decode cL_law 139 = .ok (.iadd, 1) := by decide +kernel
theorem dL_law_140 : decode cL_law 140 = .ok (.iaload, 1) := by decide +kernel
theorem dL_law_141 : decode cL_law 141 = .ok (.i2l, 1) := by decide +kernel
theorem dL_law_142 : decode cL_law 142 = .ok (.bipush 32, 2) := by decide +kernel
theorem dL_law_144 : decode cL_law 144 = .ok (.lshl, 1) := by decide +kernel
theorem dL_law_145 : decode cL_law 145 = .ok (.aload_n 0, 1) := by decide +kernel
theorem dL_law_146 : decode cL_law 146 = .ok (.iload 4, 2) := by decide +kernel
theorem dL_law_148 : decode cL_law 148 = .ok (.iconst 3, 1) := by decide +kernel
theorem dL_law_149 : decode cL_law 149 = .ok (.iadd, 1) := by decide +kernel
theorem dL_law_150 : decode cL_law 150 = .ok (.iaload, 1) := by decide +kernel
theorem dL_law_151 : decode cL_law 151 = .ok (.i2l, 1) := by decide +kernel
theorem dL_law_152 : decode cL_law 152 = .ok (.ldc2_w 69, 3) := by decide +kernel
theorem dL_law_155 : decode cL_law 155 = .ok (.land, 1) := by decide +kernel
theorem dL_law_156 : decode cL_law 156 = .ok (.lor, 1) := by decide +kernel
theorem dL_law_157 : decode cL_law 157 = .ok (.aload_n 0, 1) := by decide +kernel
theorem dL_law_158 : decode cL_law 158 = .ok (.iload 4, 2) := by decide +kernel
theorem dL_law_160 : decode cL_law 160 = .ok (.iconst 4, 1) := by decide +kernel
theorem dL_law_161 : decode cL_law 161 = .ok (.iadd, 1) := by decide +kernel
theorem dL_law_162 : decode cL_law 162 = .ok (.iaload, 1) := by decide +kernel
theorem dL_law_163 : decode cL_law 163 = .ok (.aload_n 0, 1) := by decide +kernel
theorem dL_law_164 : decode cL_law 164 = .ok (.iload 4, 2) := by decide +kernel
theorem dL_law_166 : decode cL_law 166 = .ok (.iconst 5, 1) := by decide +kernel
theorem dL_law_167 : decode cL_law 167 = .ok (.iadd, 1) := by decide +kernel
theorem dL_law_168 : decode cL_law 168 = .ok (.iaload, 1) := by decide +kernel
theorem dL_law_169 : decode cL_law 169 = .ok (.aload_n 0, 1) := by decide +kernel
theorem dL_law_170 : decode cL_law 170 = .ok (.iload 4, 2) := by decide +kernel
theorem dL_law_172 : decode cL_law 172 = .ok (.bipush 6, 2) := by decide +kernel
theorem dL_law_174 : decode cL_law 174 = .ok (.iadd, 1) := by decide +kernel
theorem dL_law_175 : decode cL_law 175 = .ok (.iaload, 1) := by decide +kernel
theorem dL_law_176 : decode cL_law 176 = .ok (.aload_n 3, 1) := by decide +kernel
theorem dL_law_177 : decode cL_law 177 = .ok (.invokestatic 71, 3) := by decide +kernel
theorem dL_law_180 : decode cL_law 180 = .ok (.istore 5, 2) := by decide +kernel
theorem dL_law_182 : decode cL_law 182 = .ok (.aload_n 2, 1) := by decide +kernel
theorem dL_law_183 : decode cL_law 183 = .ok (.aload_n 0, 1) := by decide +kernel
theorem dL_law_184 : decode cL_law 184 = .ok (.iload 4, 2) := by decide +kernel
theorem dL_law_186 : decode cL_law 186 = .ok (.iconst 1, 1) := by decide +kernel
theorem dL_law_187 : decode cL_law 187 = .ok (.iadd, 1) := by decide +kernel
theorem dL_law_188 : decode cL_law 188 = .ok (.iaload, 1) := by decide +kernel
theorem dL_law_189 : decode cL_law 189 = .ok (.aload_n 0, 1) := by decide +kernel
theorem dL_law_190 : decode cL_law 190 = .ok (.iload 4, 2) := by decide +kernel
theorem dL_law_192 : decode cL_law 192 = .ok (.iconst 2, 1) := by decide +kernel
theorem dL_law_193 : decode cL_law 193 = .ok (.iadd, 1) := by decide +kernel
theorem dL_law_194 : decode cL_law 194 = .ok (.iaload, 1) := by decide +kernel
theorem dL_law_195 : decode cL_law 195 = .ok (.i2l, 1) := by decide +kernel
theorem dL_law_196 : decode cL_law 196 = .ok (.bipush 32, 2) := by decide +kernel
theorem dL_law_198 : decode cL_law 198 = .ok (.lshl, 1) := by decide +kernel
theorem dL_law_199 : decode cL_law 199 = .ok (.aload_n 0, 1) := by decide +kernel
theorem dL_law_200 : decode cL_law 200 = .ok (.iload 4, 2) := by decide +kernel
theorem dL_law_202 : decode cL_law 202 = .ok (.iconst 3, 1) := by decide +kernel
theorem dL_law_203 : decode cL_law 203 = .ok (.iadd, 1) := by decide +kernel
theorem dL_law_204 : decode cL_law 204 = .ok (.iaload, 1) := by decide +kernel
theorem dL_law_205 : decode cL_law 205 = .ok (.i2l, 1) := by decide +kernel
theorem dL_law_206 : decode cL_law 206 = .ok (.ldc2_w 69, 3) := by decide +kernel
theorem dL_law_209 : decode cL_law 209 = .ok (.land, 1) := by decide +kernel
theorem dL_law_210 : decode cL_law 210 = .ok (.lor, 1) := by decide +kernel
theorem dL_law_211 : decode cL_law 211 = .ok (.aload_n 0, 1) := by decide +kernel
theorem dL_law_212 : decode cL_law 212 = .ok (.iload 4, 2) := by decide +kernel
theorem dL_law_214 : decode cL_law 214 = .ok (.iconst 4, 1) := by decide +kernel
theorem dL_law_215 : decode cL_law 215 = .ok (.iadd, 1) := by decide +kernel
theorem dL_law_216 : decode cL_law 216 = .ok (.iaload, 1) := by decide +kernel
theorem dL_law_217 : decode cL_law 217 = .ok (.aload_n 0, 1) := by decide +kernel
theorem dL_law_218 : decode cL_law 218 = .ok (.iload 4, 2) := by decide +kernel
theorem dL_law_220 : decode cL_law 220 = .ok (.iconst 5, 1) := by decide +kernel
theorem dL_law_221 : decode cL_law 221 = .ok (.iadd, 1) := by decide +kernel
theorem dL_law_222 : decode cL_law 222 = .ok (.iaload, 1) := by decide +kernel
theorem dL_law_223 : decode cL_law 223 = .ok (.aload_n 0, 1) := by decide +kernel
theorem dL_law_224 : decode cL_law 224 = .ok (.iload 4, 2) := by decide +kernel
theorem dL_law_226 : decode cL_law 226 = .ok (.bipush 6, 2) := by decide +kernel
theorem dL_law_228 : decode cL_law 228 = .ok (.iadd, 1) := by decide +kernel
theorem dL_law_229 : decode cL_law 229 = .ok (.iaload, 1) := by decide +kernel
theorem dL_law_230 : decode cL_law 230 = .ok (.invokevirtual 76, 3) := by decide +kernel
theorem dL_law_233 : decode cL_law 233 = .ok (.istore 6, 2) := by decide +kernel
theorem dL_law_235 : decode cL_law 235 = .ok (.aload_n 2, 1) := by decide +kernel
theorem dL_law_236 : decode cL_law 236 = .ok (.invokevirtual 77, 3) := by decide +kernel
theorem dL_law_239 : decode cL_law 239 = .ok (.iload 5, 2) := by decide +kernel
theorem dL_law_241 : decode cL_law 241 = .ok (.if_icmp .eq 5, 3) := by decide +kernel
theorem dL_law_244 : decode cL_law 244 = .ok (.iconst 0, 1) := by decide +kernel
theorem dL_law_245 : decode cL_law 245 = .ok (.ireturn, 1) := by decide +kernel
theorem dL_law_246 : decode cL_law 246 = .ok (.iload 5, 2) := by decide +kernel
theorem dL_law_248 : decode cL_law 248 = .ok (.ifCond .ne 15, 3) := by decide +kernel
theorem dL_law_251 : decode cL_law 251 = .ok (.aload_n 3, 1) := by decide +kernel
theorem dL_law_252 : decode cL_law 252 = .ok (.iconst 0, 1) := by decide +kernel
theorem dL_law_253 : decode cL_law 253 = .ok (.laload, 1) := by decide +kernel
theorem dL_law_254 : decode cL_law 254 = .ok (.iload 6, 2) := by decide +kernel
theorem dL_law_256 : decode cL_law 256 = .ok (.i2l, 1) := by decide +kernel
theorem dL_law_257 : decode cL_law 257 = .ok (.lcmp, 1) := by decide +kernel
theorem dL_law_258 : decode cL_law 258 = .ok (.ifCond .eq 5, 3) := by decide +kernel
theorem dL_law_261 : decode cL_law 261 = .ok (.iconst 0, 1) := by decide +kernel
theorem dL_law_262 : decode cL_law 262 = .ok (.ireturn, 1) := by decide +kernel
theorem dL_law_263 : decode cL_law 263 = .ok (.goto 946, 3) := by decide +kernel
theorem dL_law_266 : decode cL_law 266 = .ok (.aload_n 1, 1) := by decide +kernel
theorem dL_law_267 : decode cL_law 267 = .ok (.aload_n 0, 1) := by decide +kernel
theorem dL_law_268 : decode cL_law 268 = .ok (.iload 4, 2) := by decide +kernel
theorem dL_law_270 : decode cL_law 270 = .ok (.iconst 1, 1) := by decide +kernel
theorem dL_law_271 : decode cL_law 271 = .ok (.iadd, 1) := by decide +kernel
theorem dL_law_272 : decode cL_law 272 = .ok (.iaload, 1) := by decide +kernel
theorem dL_law_273 : decode cL_law 273 = .ok (.aload_n 0, 1) := by decide +kernel
theorem dL_law_274 : decode cL_law 274 = .ok (.iload 4, 2) := by decide +kernel
theorem dL_law_276 : decode cL_law 276 = .ok (.iconst 2, 1) := by decide +kernel
theorem dL_law_277 : decode cL_law 277 = .ok (.iadd, 1) := by decide +kernel
theorem dL_law_278 : decode cL_law 278 = .ok (.iaload, 1) := by decide +kernel
theorem dL_law_279 : decode cL_law 279 = .ok (.aload_n 0, 1) := by decide +kernel
theorem dL_law_280 : decode cL_law 280 = .ok (.iload 4, 2) := by decide +kernel
theorem dL_law_282 : decode cL_law 282 = .ok (.iconst 3, 1) := by decide +kernel
theorem dL_law_283 : decode cL_law 283 = .ok (.iadd, 1) := by decide +kernel
theorem dL_law_284 : decode cL_law 284 = .ok (.iaload, 1) := by decide +kernel
theorem dL_law_285 : decode cL_law 285 = .ok (.aload_n 0, 1) := by decide +kernel
theorem dL_law_286 : decode cL_law 286 = .ok (.iload 4, 2) := by decide +kernel
theorem dL_law_288 : decode cL_law 288 = .ok (.iconst 4, 1) := by decide +kernel
theorem dL_law_289 : decode cL_law 289 = .ok (.iadd, 1) := by decide +kernel
theorem dL_law_290 : decode cL_law 290 = .ok (.iaload, 1) := by decide +kernel
theorem dL_law_291 : decode cL_law 291 = .ok (.aload_n 0, 1) := by decide +kernel
theorem dL_law_292 : decode cL_law 292 = .ok (.iload 4, 2) := by decide +kernel
theorem dL_law_294 : decode cL_law 294 = .ok (.iconst 5, 1) := by decide +kernel
theorem dL_law_295 : decode cL_law 295 = .ok (.iadd, 1) := by decide +kernel
theorem dL_law_296 : decode cL_law 296 = .ok (.iaload, 1) := by decide +kernel
theorem dL_law_297 : decode cL_law 297 = .ok (.aload_n 3, 1) := by decide +kernel
theorem dL_law_298 : decode cL_law 298 = .ok (.invokestatic 81, 3) := by decide +kernel
theorem dL_law_301 : decode cL_law 301 = .ok (.istore 5, 2) := by decide +kernel
theorem dL_law_303 : decode cL_law 303 = .ok (.aload_n 2, 1) := by decide +kernel
theorem dL_law_304 : decode cL_law 304 = .ok (.aload_n 0, 1) := by decide +kernel
theorem dL_law_305 : decode cL_law 305 = .ok (.iload 4, 2) := by decide +kernel
theorem dL_law_307 : decode cL_law 307 = .ok (.iconst 1, 1) := by decide +kernel
theorem dL_law_308 : decode cL_law 308 = .ok (.iadd, 1) := by decide +kernel
theorem dL_law_309 : decode cL_law 309 = .ok (.iaload, 1) := by decide +kernel
theorem dL_law_310 : decode cL_law 310 = .ok (.aload_n 0, 1) := by decide +kernel
theorem dL_law_311 : decode cL_law 311 = .ok (.iload 4, 2) := by decide +kernel
theorem dL_law_313 : decode cL_law 313 = .ok (.iconst 2, 1) := by decide +kernel
theorem dL_law_314 : decode cL_law 314 = .ok (.iadd, 1) := by decide +kernel
theorem dL_law_315 : decode cL_law 315 = .ok (.iaload, 1) := by decide +kernel
theorem dL_law_316 : decode cL_law 316 = .ok (.aload_n 0, 1) := by decide +kernel
theorem dL_law_317 : decode cL_law 317 = .ok (.iload 4, 2) := by decide +kernel
theorem dL_law_319 : decode cL_law 319 = .ok (.iconst 3, 1) := by decide +kernel
theorem dL_law_320 : decode cL_law 320 = .ok (.iadd, 1) := by decide +kernel
theorem dL_law_321 : decode cL_law 321 = .ok (.iaload, 1) := by decide +kernel
theorem dL_law_322 : decode cL_law 322 = .ok (.aload_n 0, 1) := by decide +kernel
theorem dL_law_323 : decode cL_law 323 = .ok (.iload 4, 2) := by decide +kernel
theorem dL_law_325 : decode cL_law 325 = .ok (.iconst 4, 1) := by decide +kernel
theorem dL_law_326 : decode cL_law 326 = .ok (.iadd, 1) := by decide +kernel
theorem dL_law_327 : decode cL_law 327 = .ok (.iaload, 1) := by decide +kernel
theorem dL_law_328 : decode cL_law 328 = .ok (.aload_n 0, 1) := by decide +kernel
theorem dL_law_329 : decode cL_law 329 = .ok (.iload 4, 2) := by decide +kernel
theorem dL_law_331 : decode cL_law 331 = .ok (.iconst 5, 1) := by decide +kernel
theorem dL_law_332 : decode cL_law 332 = .ok (.iadd, 1) := by decide +kernel
theorem dL_law_333 : decode cL_law 333 = .ok (.iaload, 1) := by decide +kernel
theorem dL_law_334 : decode cL_law 334 = .ok (.invokevirtual 84, 3) := by decide +kernel
theorem dL_law_337 : decode cL_law 337 = .ok (.istore 6, 2) := by decide +kernel
theorem dL_law_339 : decode cL_law 339 = .ok (.aload_n 2, 1) := by decide +kernel
theorem dL_law_340 : decode cL_law 340 = .ok (.invokevirtual 77, 3) := by decide +kernel
theorem dL_law_343 : decode cL_law 343 = .ok (.iload 5, 2) := by decide +kernel
theorem dL_law_345 : decode cL_law 345 = .ok (.if_icmp .eq 5, 3) := by decide +kernel
theorem dL_law_348 : decode cL_law 348 = .ok (.iconst 0, 1) := by decide +kernel
theorem dL_law_349 : decode cL_law 349 = .ok (.ireturn, 1) := by decide +kernel
theorem dL_law_350 : decode cL_law 350 = .ok (.iload 5, 2) := by decide +kernel
theorem dL_law_352 : decode cL_law 352 = .ok (.ifCond .ne 15, 3) := by decide +kernel
theorem dL_law_355 : decode cL_law 355 = .ok (.aload_n 3, 1) := by decide +kernel
theorem dL_law_356 : decode cL_law 356 = .ok (.iconst 0, 1) := by decide +kernel
theorem dL_law_357 : decode cL_law 357 = .ok (.laload, 1) := by decide +kernel
theorem dL_law_358 : decode cL_law 358 = .ok (.iload 6, 2) := by decide +kernel
theorem dL_law_360 : decode cL_law 360 = .ok (.i2l, 1) := by decide +kernel
theorem dL_law_361 : decode cL_law 361 = .ok (.lcmp, 1) := by decide +kernel
theorem dL_law_362 : decode cL_law 362 = .ok (.ifCond .eq 5, 3) := by decide +kernel
theorem dL_law_365 : decode cL_law 365 = .ok (.iconst 0, 1) := by decide +kernel
theorem dL_law_366 : decode cL_law 366 = .ok (.ireturn, 1) := by decide +kernel
theorem dL_law_367 : decode cL_law 367 = .ok (.goto 842, 3) := by decide +kernel
theorem dL_law_370 : decode cL_law 370 = .ok (.aload_n 1, 1) := by decide +kernel
theorem dL_law_371 : decode cL_law 371 = .ok (.aload_n 0, 1) := by decide +kernel
theorem dL_law_372 : decode cL_law 372 = .ok (.iload 4, 2) := by decide +kernel
theorem dL_law_374 : decode cL_law 374 = .ok (.iconst 1, 1) := by decide +kernel
theorem dL_law_375 : decode cL_law 375 = .ok (.iadd, 1) := by decide +kernel
theorem dL_law_376 : decode cL_law 376 = .ok (.iaload, 1) := by decide +kernel
theorem dL_law_377 : decode cL_law 377 = .ok (.invokestatic 85, 3) := by decide +kernel
theorem dL_law_380 : decode cL_law 380 = .ok (.istore 5, 2) := by decide +kernel
theorem dL_law_382 : decode cL_law 382 = .ok (.aload_n 2, 1) := by decide +kernel
theorem dL_law_383 : decode cL_law 383 = .ok (.aload_n 0, 1) := by decide +kernel
theorem dL_law_384 : decode cL_law 384 = .ok (.iload 4, 2) := by decide +kernel
theorem dL_law_386 : decode cL_law 386 = .ok (.iconst 1, 1) := by decide +kernel
theorem dL_law_387 : decode cL_law 387 = .ok (.iadd, 1) := by decide +kernel
theorem dL_law_388 : decode cL_law 388 = .ok (.iaload, 1) := by decide +kernel
theorem dL_law_389 : decode cL_law 389 = .ok (.invokevirtual 88, 3) := by decide +kernel
theorem dL_law_392 : decode cL_law 392 = .ok (.aload_n 2, 1) := by decide +kernel
theorem dL_law_393 : decode cL_law 393 = .ok (.invokevirtual 77, 3) := by decide +kernel
theorem dL_law_396 : decode cL_law 396 = .ok (.iload 5, 2) := by decide +kernel
theorem dL_law_398 : decode cL_law 398 = .ok (.if_icmp .eq 5, 3) := by decide +kernel
theorem dL_law_401 : decode cL_law 401 = .ok (.iconst 0, 1) := by decide +kernel
theorem dL_law_402 : decode cL_law 402 = .ok (.ireturn, 1) := by decide +kernel
theorem dL_law_403 : decode cL_law 403 = .ok (.goto 806, 3) := by decide +kernel
theorem dL_law_406 : decode cL_law 406 = .ok (.aload_n 1, 1) := by decide +kernel
theorem dL_law_407 : decode cL_law 407 = .ok (.invokevirtual 89, 3) := by decide +kernel
theorem dL_law_410 : decode cL_law 410 = .ok (.aload_n 2, 1) := by decide +kernel
theorem dL_law_411 : decode cL_law 411 = .ok (.invokevirtual 92, 3) := by decide +kernel
theorem dL_law_414 : decode cL_law 414 = .ok (.if_icmp .eq 795, 3) := by decide +kernel
theorem dL_law_417 : decode cL_law 417 = .ok (.iconst 0, 1) := by decide +kernel
theorem dL_law_418 : decode cL_law 418 = .ok (.ireturn, 1) := by decide +kernel
theorem dL_law_419 : decode cL_law 419 = .ok (.aload_n 1, 1) := by decide +kernel
theorem dL_law_420 : decode cL_law 420 = .ok (.aload_n 0, 1) := by decide +kernel
theorem dL_law_421 : decode cL_law 421 = .ok (.iload 4, 2) := by decide +kernel
theorem dL_law_423 : decode cL_law 423 = .ok (.iconst 1, 1) := by decide +kernel
theorem dL_law_424 : decode cL_law 424 = .ok (.iadd, 1) := by decide +kernel
theorem dL_law_425 : decode cL_law 425 = .ok (.iaload, 1) := by decide +kernel
theorem dL_law_426 : decode cL_law 426 = .ok (.aload_n 3, 1) := by decide +kernel
theorem dL_law_427 : decode cL_law 427 = .ok (.invokestatic 93, 3) := by decide +kernel
theorem dL_law_430 : decode cL_law 430 = .ok (.istore 5, 2) := by decide +kernel
theorem dL_law_432 : decode cL_law 432 = .ok (.aload_n 2, 1) := by decide +kernel
theorem dL_law_433 : decode cL_law 433 = .ok (.aload_n 0, 1) := by decide +kernel
theorem dL_law_434 : decode cL_law 434 = .ok (.iload 4, 2) := by decide +kernel
theorem dL_law_436 : decode cL_law 436 = .ok (.iconst 1, 1) := by decide +kernel
theorem dL_law_437 : decode cL_law 437 = .ok (.iadd, 1) := by decide +kernel
theorem dL_law_438 : decode cL_law 438 = .ok (.iaload, 1) := by decide +kernel
theorem dL_law_439 : decode cL_law 439 = .ok (.invokevirtual 96, 3) := by decide +kernel
theorem dL_law_442 : decode cL_law 442 = .ok (.istore 6, 2) := by decide +kernel
theorem dL_law_444 : decode cL_law 444 = .ok (.aload_n 2, 1) := by decide +kernel
theorem dL_law_445 : decode cL_law 445 = .ok (.invokevirtual 77, 3) := by decide +kernel
theorem dL_law_448 : decode cL_law 448 = .ok (.iload 5, 2) := by decide +kernel
theorem dL_law_450 : decode cL_law 450 = .ok (.if_icmp .eq 5, 3) := by decide +kernel
theorem dL_law_453 : decode cL_law 453 = .ok (.iconst 0, 1) := by decide +kernel
theorem dL_law_454 : decode cL_law 454 = .ok (.ireturn, 1) := by decide +kernel
theorem dL_law_455 : decode cL_law 455 = .ok (.iload 5, 2) := by decide +kernel
theorem dL_law_457 : decode cL_law 457 = .ok (.ifCond .ne 15, 3) := by decide +kernel
theorem dL_law_460 : decode cL_law 460 = .ok (.aload_n 3, 1) := by decide +kernel
theorem dL_law_461 : decode cL_law 461 = .ok (.iconst 0, 1) := by decide +kernel
theorem dL_law_462 : decode cL_law 462 = .ok (.laload, 1) := by decide +kernel
theorem dL_law_463 : decode cL_law 463 = .ok (.iload 6, 2) := by decide +kernel
theorem dL_law_465 : decode cL_law 465 = .ok (.i2l, 1) := by decide +kernel
theorem dL_law_466 : decode cL_law 466 = .ok (.lcmp, 1) := by decide +kernel
theorem dL_law_467 : decode cL_law 467 = .ok (.ifCond .eq 5, 3) := by decide +kernel
theorem dL_law_470 : decode cL_law 470 = .ok (.iconst 0, 1) := by decide +kernel
theorem dL_law_471 : decode cL_law 471 = .ok (.ireturn, 1) := by decide +kernel
theorem dL_law_472 : decode cL_law 472 = .ok (.goto 737, 3) := by decide +kernel
theorem dL_law_475 : decode cL_law 475 = .ok (.aload_n 1, 1) := by decide +kernel
theorem dL_law_476 : decode cL_law 476 = .ok (.aload_n 0, 1) := by decide +kernel
theorem dL_law_477 : decode cL_law 477 = .ok (.iload 4, 2) := by decide +kernel
theorem dL_law_479 : decode cL_law 479 = .ok (.iconst 1, 1) := by decide +kernel
theorem dL_law_480 : decode cL_law 480 = .ok (.iadd, 1) := by decide +kernel
theorem dL_law_481 : decode cL_law 481 = .ok (.iaload, 1) := by decide +kernel
theorem dL_law_482 : decode cL_law 482 = .ok (.aload_n 0, 1) := by decide +kernel
theorem dL_law_483 : decode cL_law 483 = .ok (.iload 4, 2) := by decide +kernel
theorem dL_law_485 : decode cL_law 485 = .ok (.iconst 2, 1) := by decide +kernel
theorem dL_law_486 : decode cL_law 486 = .ok (.iadd, 1) := by decide +kernel
theorem dL_law_487 : decode cL_law 487 = .ok (.iaload, 1) := by decide +kernel
theorem dL_law_488 : decode cL_law 488 = .ok (.i2l, 1) := by decide +kernel
theorem dL_law_489 : decode cL_law 489 = .ok (.bipush 32, 2) := by decide +kernel
theorem dL_law_491 : decode cL_law 491 = .ok (.lshl, 1) := by decide +kernel
theorem dL_law_492 : decode cL_law 492 = .ok (.aload_n 0, 1) := by decide +kernel
theorem dL_law_493 : decode cL_law 493 = .ok (.iload 4, 2) := by decide +kernel
theorem dL_law_495 : decode cL_law 495 = .ok (.iconst 3, 1) := by decide +kernel
theorem dL_law_496 : decode cL_law 496 = .ok (.iadd, 1) := by decide +kernel
theorem dL_law_497 : decode cL_law 497 = .ok (.iaload, 1) := by decide +kernel
theorem dL_law_498 : decode cL_law 498 = .ok (.i2l, 1) := by decide +kernel
theorem dL_law_499 : decode cL_law 499 = .ok (.ldc2_w 69, 3) := by decide +kernel
theorem dL_law_502 : decode cL_law 502 = .ok (.land, 1) := by decide +kernel
theorem dL_law_503 : decode cL_law 503 = .ok (.lor, 1) := by decide +kernel
theorem dL_law_504 : decode cL_law 504 = .ok (.aload_n 0, 1) := by decide +kernel
theorem dL_law_505 : decode cL_law 505 = .ok (.iload 4, 2) := by decide +kernel
theorem dL_law_507 : decode cL_law 507 = .ok (.iconst 4, 1) := by decide +kernel
theorem dL_law_508 : decode cL_law 508 = .ok (.iadd, 1) := by decide +kernel
theorem dL_law_509 : decode cL_law 509 = .ok (.iaload, 1) := by decide +kernel
theorem dL_law_510 : decode cL_law 510 = .ok (.aload_n 0, 1) := by decide +kernel
theorem dL_law_511 : decode cL_law 511 = .ok (.iload 4, 2) := by decide +kernel
theorem dL_law_513 : decode cL_law 513 = .ok (.iconst 5, 1) := by decide +kernel
theorem dL_law_514 : decode cL_law 514 = .ok (.iadd, 1) := by decide +kernel
theorem dL_law_515 : decode cL_law 515 = .ok (.iaload, 1) := by decide +kernel
theorem dL_law_516 : decode cL_law 516 = .ok (.aload_n 0, 1) := by decide +kernel
theorem dL_law_517 : decode cL_law 517 = .ok (.iload 4, 2) := by decide +kernel
theorem dL_law_519 : decode cL_law 519 = .ok (.bipush 6, 2) := by decide +kernel
theorem dL_law_521 : decode cL_law 521 = .ok (.iadd, 1) := by decide +kernel
theorem dL_law_522 : decode cL_law 522 = .ok (.iaload, 1) := by decide +kernel
theorem dL_law_523 : decode cL_law 523 = .ok (.aload_n 3, 1) := by decide +kernel
theorem dL_law_524 : decode cL_law 524 = .ok (.invokestatic 97, 3) := by decide +kernel
theorem dL_law_527 : decode cL_law 527 = .ok (.istore 5, 2) := by decide +kernel
theorem dL_law_529 : decode cL_law 529 = .ok (.aload_n 2, 1) := by decide +kernel
theorem dL_law_530 : decode cL_law 530 = .ok (.aload_n 0, 1) := by decide +kernel
theorem dL_law_531 : decode cL_law 531 = .ok (.iload 4, 2) := by decide +kernel
theorem dL_law_533 : decode cL_law 533 = .ok (.iconst 1, 1) := by decide +kernel
theorem dL_law_534 : decode cL_law 534 = .ok (.iadd, 1) := by decide +kernel
theorem dL_law_535 : decode cL_law 535 = .ok (.iaload, 1) := by decide +kernel
theorem dL_law_536 : decode cL_law 536 = .ok (.aload_n 0, 1) := by decide +kernel
theorem dL_law_537 : decode cL_law 537 = .ok (.iload 4, 2) := by decide +kernel
theorem dL_law_539 : decode cL_law 539 = .ok (.iconst 2, 1) := by decide +kernel
theorem dL_law_540 : decode cL_law 540 = .ok (.iadd, 1) := by decide +kernel
theorem dL_law_541 : decode cL_law 541 = .ok (.iaload, 1) := by decide +kernel
theorem dL_law_542 : decode cL_law 542 = .ok (.i2l, 1) := by decide +kernel
theorem dL_law_543 : decode cL_law 543 = .ok (.bipush 32, 2) := by decide +kernel
theorem dL_law_545 : decode cL_law 545 = .ok (.lshl, 1) := by decide +kernel
theorem dL_law_546 : decode cL_law 546 = .ok (.aload_n 0, 1) := by decide +kernel
theorem dL_law_547 : decode cL_law 547 = .ok (.iload 4, 2) := by decide +kernel
theorem dL_law_549 : decode cL_law 549 = .ok (.iconst 3, 1) := by decide +kernel
theorem dL_law_550 : decode cL_law 550 = .ok (.iadd, 1) := by decide +kernel
theorem dL_law_551 : decode cL_law 551 = .ok (.iaload, 1) := by decide +kernel
theorem dL_law_552 : decode cL_law 552 = .ok (.i2l, 1) := by decide +kernel
theorem dL_law_553 : decode cL_law 553 = .ok (.ldc2_w 69, 3) := by decide +kernel
theorem dL_law_556 : decode cL_law 556 = .ok (.land, 1) := by decide +kernel
theorem dL_law_557 : decode cL_law 557 = .ok (.lor, 1) := by decide +kernel
theorem dL_law_558 : decode cL_law 558 = .ok (.aload_n 0, 1) := by decide +kernel
theorem dL_law_559 : decode cL_law 559 = .ok (.iload 4, 2) := by decide +kernel
theorem dL_law_561 : decode cL_law 561 = .ok (.iconst 4, 1) := by decide +kernel
theorem dL_law_562 : decode cL_law 562 = .ok (.iadd, 1) := by decide +kernel
theorem dL_law_563 : decode cL_law 563 = .ok (.iaload, 1) := by decide +kernel
theorem dL_law_564 : decode cL_law 564 = .ok (.aload_n 0, 1) := by decide +kernel
theorem dL_law_565 : decode cL_law 565 = .ok (.iload 4, 2) := by decide +kernel
theorem dL_law_567 : decode cL_law 567 = .ok (.iconst 5, 1) := by decide +kernel
theorem dL_law_568 : decode cL_law 568 = .ok (.iadd, 1) := by decide +kernel
theorem dL_law_569 : decode cL_law 569 = .ok (.iaload, 1) := by decide +kernel
theorem dL_law_570 : decode cL_law 570 = .ok (.aload_n 0, 1) := by decide +kernel
theorem dL_law_571 : decode cL_law 571 = .ok (.iload 4, 2) := by decide +kernel
theorem dL_law_573 : decode cL_law 573 = .ok (.bipush 6, 2) := by decide +kernel
theorem dL_law_575 : decode cL_law 575 = .ok (.iadd, 1) := by decide +kernel
theorem dL_law_576 : decode cL_law 576 = .ok (.iaload, 1) := by decide +kernel
theorem dL_law_577 : decode cL_law 577 = .ok (.invokevirtual 99, 3) := by decide +kernel
theorem dL_law_580 : decode cL_law 580 = .ok (.istore 6, 2) := by decide +kernel
theorem dL_law_582 : decode cL_law 582 = .ok (.aload_n 2, 1) := by decide +kernel
theorem dL_law_583 : decode cL_law 583 = .ok (.invokevirtual 77, 3) := by decide +kernel
theorem dL_law_586 : decode cL_law 586 = .ok (.iload 5, 2) := by decide +kernel
theorem dL_law_588 : decode cL_law 588 = .ok (.if_icmp .eq 5, 3) := by decide +kernel
theorem dL_law_591 : decode cL_law 591 = .ok (.iconst 0, 1) := by decide +kernel
theorem dL_law_592 : decode cL_law 592 = .ok (.ireturn, 1) := by decide +kernel
theorem dL_law_593 : decode cL_law 593 = .ok (.iload 5, 2) := by decide +kernel
theorem dL_law_595 : decode cL_law 595 = .ok (.ifCond .ne 15, 3) := by decide +kernel
theorem dL_law_598 : decode cL_law 598 = .ok (.aload_n 3, 1) := by decide +kernel
theorem dL_law_599 : decode cL_law 599 = .ok (.iconst 0, 1) := by decide +kernel
theorem dL_law_600 : decode cL_law 600 = .ok (.laload, 1) := by decide +kernel
theorem dL_law_601 : decode cL_law 601 = .ok (.iload 6, 2) := by decide +kernel
theorem dL_law_603 : decode cL_law 603 = .ok (.i2l, 1) := by decide +kernel
theorem dL_law_604 : decode cL_law 604 = .ok (.lcmp, 1) := by decide +kernel
theorem dL_law_605 : decode cL_law 605 = .ok (.ifCond .eq 5, 3) := by decide +kernel
theorem dL_law_608 : decode cL_law 608 = .ok (.iconst 0, 1) := by decide +kernel
theorem dL_law_609 : decode cL_law 609 = .ok (.ireturn, 1) := by decide +kernel
theorem dL_law_610 : decode cL_law 610 = .ok (.goto 599, 3) := by decide +kernel
theorem dL_law_613 : decode cL_law 613 = .ok (.aload_n 1, 1) := by decide +kernel
theorem dL_law_614 : decode cL_law 614 = .ok (.aload_n 0, 1) := by decide +kernel
theorem dL_law_615 : decode cL_law 615 = .ok (.iload 4, 2) := by decide +kernel
theorem dL_law_617 : decode cL_law 617 = .ok (.iconst 1, 1) := by decide +kernel
theorem dL_law_618 : decode cL_law 618 = .ok (.iadd, 1) := by decide +kernel
theorem dL_law_619 : decode cL_law 619 = .ok (.iaload, 1) := by decide +kernel
theorem dL_law_620 : decode cL_law 620 = .ok (.aload_n 0, 1) := by decide +kernel
theorem dL_law_621 : decode cL_law 621 = .ok (.iload 4, 2) := by decide +kernel
theorem dL_law_623 : decode cL_law 623 = .ok (.iconst 2, 1) := by decide +kernel
theorem dL_law_624 : decode cL_law 624 = .ok (.iadd, 1) := by decide +kernel
theorem dL_law_625 : decode cL_law 625 = .ok (.iaload, 1) := by decide +kernel
theorem dL_law_626 : decode cL_law 626 = .ok (.invokestatic 100, 3) := by decide +kernel
theorem dL_law_629 : decode cL_law 629 = .ok (.istore 5, 2) := by decide +kernel
theorem dL_law_631 : decode cL_law 631 = .ok (.aload_n 2, 1) := by decide +kernel
theorem dL_law_632 : decode cL_law 632 = .ok (.aload_n 0, 1) := by decide +kernel
theorem dL_law_633 : decode cL_law 633 = .ok (.iload 4, 2) := by decide +kernel
theorem dL_law_635 : decode cL_law 635 = .ok (.iconst 1, 1) := by decide +kernel
theorem dL_law_636 : decode cL_law 636 = .ok (.iadd, 1) := by decide +kernel
theorem dL_law_637 : decode cL_law 637 = .ok (.iaload, 1) := by decide +kernel
theorem dL_law_638 : decode cL_law 638 = .ok (.aload_n 0, 1) := by decide +kernel
theorem dL_law_639 : decode cL_law 639 = .ok (.iload 4, 2) := by decide +kernel
theorem dL_law_641 : decode cL_law 641 = .ok (.iconst 2, 1) := by decide +kernel
theorem dL_law_642 : decode cL_law 642 = .ok (.iadd, 1) := by decide +kernel
theorem dL_law_643 : decode cL_law 643 = .ok (.iaload, 1) := by decide +kernel
theorem dL_law_644 : decode cL_law 644 = .ok (.invokevirtual 103, 3) := by decide +kernel
theorem dL_law_647 : decode cL_law 647 = .ok (.aload_n 2, 1) := by decide +kernel
theorem dL_law_648 : decode cL_law 648 = .ok (.invokevirtual 77, 3) := by decide +kernel
theorem dL_law_651 : decode cL_law 651 = .ok (.iload 5, 2) := by decide +kernel
theorem dL_law_653 : decode cL_law 653 = .ok (.if_icmp .eq 5, 3) := by decide +kernel
theorem dL_law_656 : decode cL_law 656 = .ok (.iconst 0, 1) := by decide +kernel
theorem dL_law_657 : decode cL_law 657 = .ok (.ireturn, 1) := by decide +kernel
theorem dL_law_658 : decode cL_law 658 = .ok (.goto 551, 3) := by decide +kernel
theorem dL_law_661 : decode cL_law 661 = .ok (.aload_n 1, 1) := by decide +kernel
theorem dL_law_662 : decode cL_law 662 = .ok (.invokevirtual 104, 3) := by decide +kernel
theorem dL_law_665 : decode cL_law 665 = .ok (.aload_n 2, 1) := by decide +kernel
theorem dL_law_666 : decode cL_law 666 = .ok (.invokevirtual 107, 3) := by decide +kernel
theorem dL_law_669 : decode cL_law 669 = .ok (.if_icmp .eq 540, 3) := by decide +kernel
theorem dL_law_672 : decode cL_law 672 = .ok (.iconst 0, 1) := by decide +kernel
theorem dL_law_673 : decode cL_law 673 = .ok (.ireturn, 1) := by decide +kernel
theorem dL_law_674 : decode cL_law 674 = .ok (.aload_n 1, 1) := by decide +kernel
theorem dL_law_675 : decode cL_law 675 = .ok (.aload_n 0, 1) := by decide +kernel
theorem dL_law_676 : decode cL_law 676 = .ok (.iload 4, 2) := by decide +kernel
theorem dL_law_678 : decode cL_law 678 = .ok (.iconst 1, 1) := by decide +kernel
theorem dL_law_679 : decode cL_law 679 = .ok (.iadd, 1) := by decide +kernel
theorem dL_law_680 : decode cL_law 680 = .ok (.iaload, 1) := by decide +kernel
theorem dL_law_681 : decode cL_law 681 = .ok (.aload_n 0, 1) := by decide +kernel
theorem dL_law_682 : decode cL_law 682 = .ok (.iload 4, 2) := by decide +kernel
theorem dL_law_684 : decode cL_law 684 = .ok (.iconst 2, 1) := by decide +kernel
theorem dL_law_685 : decode cL_law 685 = .ok (.iadd, 1) := by decide +kernel
theorem dL_law_686 : decode cL_law 686 = .ok (.iaload, 1) := by decide +kernel
theorem dL_law_687 : decode cL_law 687 = .ok (.aload_n 3, 1) := by decide +kernel
theorem dL_law_688 : decode cL_law 688 = .ok (.invokestatic 108, 3) := by decide +kernel
theorem dL_law_691 : decode cL_law 691 = .ok (.istore 5, 2) := by decide +kernel
theorem dL_law_693 : decode cL_law 693 = .ok (.aload_n 2, 1) := by decide +kernel
theorem dL_law_694 : decode cL_law 694 = .ok (.aload_n 0, 1) := by decide +kernel
theorem dL_law_695 : decode cL_law 695 = .ok (.iload 4, 2) := by decide +kernel
theorem dL_law_697 : decode cL_law 697 = .ok (.iconst 1, 1) := by decide +kernel
theorem dL_law_698 : decode cL_law 698 = .ok (.iadd, 1) := by decide +kernel
theorem dL_law_699 : decode cL_law 699 = .ok (.iaload, 1) := by decide +kernel
theorem dL_law_700 : decode cL_law 700 = .ok (.aload_n 0, 1) := by decide +kernel
theorem dL_law_701 : decode cL_law 701 = .ok (.iload 4, 2) := by decide +kernel
theorem dL_law_703 : decode cL_law 703 = .ok (.iconst 2, 1) := by decide +kernel
theorem dL_law_704 : decode cL_law 704 = .ok (.iadd, 1) := by decide +kernel
theorem dL_law_705 : decode cL_law 705 = .ok (.iaload, 1) := by decide +kernel
theorem dL_law_706 : decode cL_law 706 = .ok (.invokevirtual 111, 3) := by decide +kernel
theorem dL_law_709 : decode cL_law 709 = .ok (.istore 6, 2) := by decide +kernel
theorem dL_law_711 : decode cL_law 711 = .ok (.aload_n 2, 1) := by decide +kernel
theorem dL_law_712 : decode cL_law 712 = .ok (.invokevirtual 77, 3) := by decide +kernel
theorem dL_law_715 : decode cL_law 715 = .ok (.iload 5, 2) := by decide +kernel
theorem dL_law_717 : decode cL_law 717 = .ok (.if_icmp .eq 5, 3) := by decide +kernel
theorem dL_law_720 : decode cL_law 720 = .ok (.iconst 0, 1) := by decide +kernel
theorem dL_law_721 : decode cL_law 721 = .ok (.ireturn, 1) := by decide +kernel
theorem dL_law_722 : decode cL_law 722 = .ok (.iload 5, 2) := by decide +kernel
theorem dL_law_724 : decode cL_law 724 = .ok (.ifCond .ne 15, 3) := by decide +kernel
theorem dL_law_727 : decode cL_law 727 = .ok (.aload_n 3, 1) := by decide +kernel
theorem dL_law_728 : decode cL_law 728 = .ok (.iconst 0, 1) := by decide +kernel
theorem dL_law_729 : decode cL_law 729 = .ok (.laload, 1) := by decide +kernel
theorem dL_law_730 : decode cL_law 730 = .ok (.iload 6, 2) := by decide +kernel
theorem dL_law_732 : decode cL_law 732 = .ok (.i2l, 1) := by decide +kernel
theorem dL_law_733 : decode cL_law 733 = .ok (.lcmp, 1) := by decide +kernel
theorem dL_law_734 : decode cL_law 734 = .ok (.ifCond .eq 5, 3) := by decide +kernel
theorem dL_law_737 : decode cL_law 737 = .ok (.iconst 0, 1) := by decide +kernel
theorem dL_law_738 : decode cL_law 738 = .ok (.ireturn, 1) := by decide +kernel
theorem dL_law_739 : decode cL_law 739 = .ok (.goto 470, 3) := by decide +kernel
theorem dL_law_742 : decode cL_law 742 = .ok (.aload_n 1, 1) := by decide +kernel
theorem dL_law_743 : decode cL_law 743 = .ok (.aload_n 0, 1) := by decide +kernel
theorem dL_law_744 : decode cL_law 744 = .ok (.iload 4, 2) := by decide +kernel
theorem dL_law_746 : decode cL_law 746 = .ok (.iconst 1, 1) := by decide +kernel
theorem dL_law_747 : decode cL_law 747 = .ok (.iadd, 1) := by decide +kernel
theorem dL_law_748 : decode cL_law 748 = .ok (.iaload, 1) := by decide +kernel
theorem dL_law_749 : decode cL_law 749 = .ok (.aload_n 3, 1) := by decide +kernel
theorem dL_law_750 : decode cL_law 750 = .ok (.invokestatic 112, 3) := by decide +kernel
theorem dL_law_753 : decode cL_law 753 = .ok (.istore 5, 2) := by decide +kernel
theorem dL_law_755 : decode cL_law 755 = .ok (.aload_n 2, 1) := by decide +kernel
theorem dL_law_756 : decode cL_law 756 = .ok (.aload_n 0, 1) := by decide +kernel
theorem dL_law_757 : decode cL_law 757 = .ok (.iload 4, 2) := by decide +kernel
theorem dL_law_759 : decode cL_law 759 = .ok (.iconst 1, 1) := by decide +kernel
theorem dL_law_760 : decode cL_law 760 = .ok (.iadd, 1) := by decide +kernel
theorem dL_law_761 : decode cL_law 761 = .ok (.iaload, 1) := by decide +kernel
theorem dL_law_762 : decode cL_law 762 = .ok (.invokevirtual 114, 3) := by decide +kernel
theorem dL_law_765 : decode cL_law 765 = .ok (.lstore 6, 2) := by decide +kernel
theorem dL_law_767 : decode cL_law 767 = .ok (.aload_n 2, 1) := by decide +kernel
theorem dL_law_768 : decode cL_law 768 = .ok (.invokevirtual 77, 3) := by decide +kernel
theorem dL_law_771 : decode cL_law 771 = .ok (.iload 5, 2) := by decide +kernel
theorem dL_law_773 : decode cL_law 773 = .ok (.if_icmp .eq 5, 3) := by decide +kernel
theorem dL_law_776 : decode cL_law 776 = .ok (.iconst 0, 1) := by decide +kernel
theorem dL_law_777 : decode cL_law 777 = .ok (.ireturn, 1) := by decide +kernel
theorem dL_law_778 : decode cL_law 778 = .ok (.iload 5, 2) := by decide +kernel
theorem dL_law_780 : decode cL_law 780 = .ok (.ifCond .ne 14, 3) := by decide +kernel
theorem dL_law_783 : decode cL_law 783 = .ok (.aload_n 3, 1) := by decide +kernel
theorem dL_law_784 : decode cL_law 784 = .ok (.iconst 0, 1) := by decide +kernel
theorem dL_law_785 : decode cL_law 785 = .ok (.laload, 1) := by decide +kernel
theorem dL_law_786 : decode cL_law 786 = .ok (.lload 6, 2) := by decide +kernel
theorem dL_law_788 : decode cL_law 788 = .ok (.lcmp, 1) := by decide +kernel
theorem dL_law_789 : decode cL_law 789 = .ok (.ifCond .eq 5, 3) := by decide +kernel
theorem dL_law_792 : decode cL_law 792 = .ok (.iconst 0, 1) := by decide +kernel
theorem dL_law_793 : decode cL_law 793 = .ok (.ireturn, 1) := by decide +kernel
theorem dL_law_794 : decode cL_law 794 = .ok (.goto 415, 3) := by decide +kernel
theorem dL_law_797 : decode cL_law 797 = .ok (.aload_n 1, 1) := by decide +kernel
theorem dL_law_798 : decode cL_law 798 = .ok (.aload_n 0, 1) := by decide +kernel
theorem dL_law_799 : decode cL_law 799 = .ok (.iload 4, 2) := by decide +kernel
theorem dL_law_801 : decode cL_law 801 = .ok (.iconst 1, 1) := by decide +kernel
theorem dL_law_802 : decode cL_law 802 = .ok (.iadd, 1) := by decide +kernel
theorem dL_law_803 : decode cL_law 803 = .ok (.iaload, 1) := by decide +kernel
theorem dL_law_804 : decode cL_law 804 = .ok (.aload_n 0, 1) := by decide +kernel
theorem dL_law_805 : decode cL_law 805 = .ok (.iload 4, 2) := by decide +kernel
theorem dL_law_807 : decode cL_law 807 = .ok (.iconst 2, 1) := by decide +kernel
theorem dL_law_808 : decode cL_law 808 = .ok (.iadd, 1) := by decide +kernel
theorem dL_law_809 : decode cL_law 809 = .ok (.iaload, 1) := by decide +kernel
theorem dL_law_810 : decode cL_law 810 = .ok (.aload_n 3, 1) := by decide +kernel
theorem dL_law_811 : decode cL_law 811 = .ok (.invokestatic 115, 3) := by decide +kernel
theorem dL_law_814 : decode cL_law 814 = .ok (.istore 5, 2) := by decide +kernel
theorem dL_law_816 : decode cL_law 816 = .ok (.aload_n 2, 1) := by decide +kernel
theorem dL_law_817 : decode cL_law 817 = .ok (.aload_n 0, 1) := by decide +kernel
theorem dL_law_818 : decode cL_law 818 = .ok (.iload 4, 2) := by decide +kernel
theorem dL_law_820 : decode cL_law 820 = .ok (.iconst 1, 1) := by decide +kernel
theorem dL_law_821 : decode cL_law 821 = .ok (.iadd, 1) := by decide +kernel
theorem dL_law_822 : decode cL_law 822 = .ok (.iaload, 1) := by decide +kernel
theorem dL_law_823 : decode cL_law 823 = .ok (.aload_n 0, 1) := by decide +kernel
theorem dL_law_824 : decode cL_law 824 = .ok (.iload 4, 2) := by decide +kernel
theorem dL_law_826 : decode cL_law 826 = .ok (.iconst 2, 1) := by decide +kernel
theorem dL_law_827 : decode cL_law 827 = .ok (.iadd, 1) := by decide +kernel
theorem dL_law_828 : decode cL_law 828 = .ok (.iaload, 1) := by decide +kernel
theorem dL_law_829 : decode cL_law 829 = .ok (.invokevirtual 117, 3) := by decide +kernel
theorem dL_law_832 : decode cL_law 832 = .ok (.istore 6, 2) := by decide +kernel
theorem dL_law_834 : decode cL_law 834 = .ok (.aload_n 2, 1) := by decide +kernel
theorem dL_law_835 : decode cL_law 835 = .ok (.invokevirtual 77, 3) := by decide +kernel
theorem dL_law_838 : decode cL_law 838 = .ok (.iload 5, 2) := by decide +kernel
theorem dL_law_840 : decode cL_law 840 = .ok (.if_icmp .eq 5, 3) := by decide +kernel
theorem dL_law_843 : decode cL_law 843 = .ok (.iconst 0, 1) := by decide +kernel
theorem dL_law_844 : decode cL_law 844 = .ok (.ireturn, 1) := by decide +kernel
theorem dL_law_845 : decode cL_law 845 = .ok (.iload 5, 2) := by decide +kernel
theorem dL_law_847 : decode cL_law 847 = .ok (.ifCond .ne 15, 3) := by decide +kernel
theorem dL_law_850 : decode cL_law 850 = .ok (.aload_n 3, 1) := by decide +kernel
theorem dL_law_851 : decode cL_law 851 = .ok (.iconst 0, 1) := by decide +kernel
theorem dL_law_852 : decode cL_law 852 = .ok (.laload, 1) := by decide +kernel
theorem dL_law_853 : decode cL_law 853 = .ok (.iload 6, 2) := by decide +kernel
theorem dL_law_855 : decode cL_law 855 = .ok (.i2l, 1) := by decide +kernel
theorem dL_law_856 : decode cL_law 856 = .ok (.lcmp, 1) := by decide +kernel
theorem dL_law_857 : decode cL_law 857 = .ok (.ifCond .eq 5, 3) := by decide +kernel
theorem dL_law_860 : decode cL_law 860 = .ok (.iconst 0, 1) := by decide +kernel
theorem dL_law_861 : decode cL_law 861 = .ok (.ireturn, 1) := by decide +kernel
theorem dL_law_862 : decode cL_law 862 = .ok (.goto 347, 3) := by decide +kernel
theorem dL_law_865 : decode cL_law 865 = .ok (.aload_n 1, 1) := by decide +kernel
theorem dL_law_866 : decode cL_law 866 = .ok (.aload_n 0, 1) := by decide +kernel
theorem dL_law_867 : decode cL_law 867 = .ok (.iload 4, 2) := by decide +kernel
theorem dL_law_869 : decode cL_law 869 = .ok (.iconst 1, 1) := by decide +kernel
theorem dL_law_870 : decode cL_law 870 = .ok (.iadd, 1) := by decide +kernel
theorem dL_law_871 : decode cL_law 871 = .ok (.iaload, 1) := by decide +kernel
theorem dL_law_872 : decode cL_law 872 = .ok (.aload_n 0, 1) := by decide +kernel
theorem dL_law_873 : decode cL_law 873 = .ok (.iload 4, 2) := by decide +kernel
theorem dL_law_875 : decode cL_law 875 = .ok (.iconst 2, 1) := by decide +kernel
theorem dL_law_876 : decode cL_law 876 = .ok (.iadd, 1) := by decide +kernel
theorem dL_law_877 : decode cL_law 877 = .ok (.iaload, 1) := by decide +kernel
theorem dL_law_878 : decode cL_law 878 = .ok (.aload_n 3, 1) := by decide +kernel
theorem dL_law_879 : decode cL_law 879 = .ok (.invokestatic 118, 3) := by decide +kernel
theorem dL_law_882 : decode cL_law 882 = .ok (.istore 5, 2) := by decide +kernel
theorem dL_law_884 : decode cL_law 884 = .ok (.aload_n 2, 1) := by decide +kernel
theorem dL_law_885 : decode cL_law 885 = .ok (.aload_n 0, 1) := by decide +kernel
theorem dL_law_886 : decode cL_law 886 = .ok (.iload 4, 2) := by decide +kernel
theorem dL_law_888 : decode cL_law 888 = .ok (.iconst 1, 1) := by decide +kernel
theorem dL_law_889 : decode cL_law 889 = .ok (.iadd, 1) := by decide +kernel
theorem dL_law_890 : decode cL_law 890 = .ok (.iaload, 1) := by decide +kernel
theorem dL_law_891 : decode cL_law 891 = .ok (.aload_n 0, 1) := by decide +kernel
theorem dL_law_892 : decode cL_law 892 = .ok (.iload 4, 2) := by decide +kernel
theorem dL_law_894 : decode cL_law 894 = .ok (.iconst 2, 1) := by decide +kernel
theorem dL_law_895 : decode cL_law 895 = .ok (.iadd, 1) := by decide +kernel
theorem dL_law_896 : decode cL_law 896 = .ok (.iaload, 1) := by decide +kernel
theorem dL_law_897 : decode cL_law 897 = .ok (.invokevirtual 120, 3) := by decide +kernel
theorem dL_law_900 : decode cL_law 900 = .ok (.istore 6, 2) := by decide +kernel
theorem dL_law_902 : decode cL_law 902 = .ok (.aload_n 2, 1) := by decide +kernel
theorem dL_law_903 : decode cL_law 903 = .ok (.invokevirtual 77, 3) := by decide +kernel
theorem dL_law_906 : decode cL_law 906 = .ok (.iload 5, 2) := by decide +kernel
theorem dL_law_908 : decode cL_law 908 = .ok (.if_icmp .eq 5, 3) := by decide +kernel
theorem dL_law_911 : decode cL_law 911 = .ok (.iconst 0, 1) := by decide +kernel
theorem dL_law_912 : decode cL_law 912 = .ok (.ireturn, 1) := by decide +kernel
theorem dL_law_913 : decode cL_law 913 = .ok (.iload 5, 2) := by decide +kernel
theorem dL_law_915 : decode cL_law 915 = .ok (.ifCond .ne 15, 3) := by decide +kernel
theorem dL_law_918 : decode cL_law 918 = .ok (.aload_n 3, 1) := by decide +kernel
theorem dL_law_919 : decode cL_law 919 = .ok (.iconst 0, 1) := by decide +kernel
theorem dL_law_920 : decode cL_law 920 = .ok (.laload, 1) := by decide +kernel
theorem dL_law_921 : decode cL_law 921 = .ok (.iload 6, 2) := by decide +kernel
theorem dL_law_923 : decode cL_law 923 = .ok (.i2l, 1) := by decide +kernel
theorem dL_law_924 : decode cL_law 924 = .ok (.lcmp, 1) := by decide +kernel
theorem dL_law_925 : decode cL_law 925 = .ok (.ifCond .eq 5, 3) := by decide +kernel
theorem dL_law_928 : decode cL_law 928 = .ok (.iconst 0, 1) := by decide +kernel
theorem dL_law_929 : decode cL_law 929 = .ok (.ireturn, 1) := by decide +kernel
theorem dL_law_930 : decode cL_law 930 = .ok (.goto 279, 3) := by decide +kernel
theorem dL_law_933 : decode cL_law 933 = .ok (.aload_n 1, 1) := by decide +kernel
theorem dL_law_934 : decode cL_law 934 = .ok (.aload_n 0, 1) := by decide +kernel
theorem dL_law_935 : decode cL_law 935 = .ok (.iload 4, 2) := by decide +kernel
theorem dL_law_937 : decode cL_law 937 = .ok (.iconst 1, 1) := by decide +kernel
theorem dL_law_938 : decode cL_law 938 = .ok (.iadd, 1) := by decide +kernel
theorem dL_law_939 : decode cL_law 939 = .ok (.iaload, 1) := by decide +kernel
theorem dL_law_940 : decode cL_law 940 = .ok (.aload_n 0, 1) := by decide +kernel
theorem dL_law_941 : decode cL_law 941 = .ok (.iload 4, 2) := by decide +kernel
theorem dL_law_943 : decode cL_law 943 = .ok (.iconst 2, 1) := by decide +kernel
theorem dL_law_944 : decode cL_law 944 = .ok (.iadd, 1) := by decide +kernel
theorem dL_law_945 : decode cL_law 945 = .ok (.iaload, 1) := by decide +kernel
theorem dL_law_946 : decode cL_law 946 = .ok (.ifCond .eq 7, 3) := by decide +kernel
theorem dL_law_949 : decode cL_law 949 = .ok (.iconst 1, 1) := by decide +kernel
theorem dL_law_950 : decode cL_law 950 = .ok (.goto 4, 3) := by decide +kernel
theorem dL_law_953 : decode cL_law 953 = .ok (.iconst 0, 1) := by decide +kernel
theorem dL_law_954 : decode cL_law 954 = .ok (.aload_n 3, 1) := by decide +kernel
theorem dL_law_955 : decode cL_law 955 = .ok (.invokestatic 121, 3) := by decide +kernel
theorem dL_law_958 : decode cL_law 958 = .ok (.istore 5, 2) := by decide +kernel
theorem dL_law_960 : decode cL_law 960 = .ok (.aload_n 2, 1) := by decide +kernel
theorem dL_law_961 : decode cL_law 961 = .ok (.aload_n 0, 1) := by decide +kernel
theorem dL_law_962 : decode cL_law 962 = .ok (.iload 4, 2) := by decide +kernel
theorem dL_law_964 : decode cL_law 964 = .ok (.iconst 1, 1) := by decide +kernel
theorem dL_law_965 : decode cL_law 965 = .ok (.iadd, 1) := by decide +kernel
theorem dL_law_966 : decode cL_law 966 = .ok (.iaload, 1) := by decide +kernel
theorem dL_law_967 : decode cL_law 967 = .ok (.aload_n 0, 1) := by decide +kernel
theorem dL_law_968 : decode cL_law 968 = .ok (.iload 4, 2) := by decide +kernel
theorem dL_law_970 : decode cL_law 970 = .ok (.iconst 2, 1) := by decide +kernel
theorem dL_law_971 : decode cL_law 971 = .ok (.iadd, 1) := by decide +kernel
theorem dL_law_972 : decode cL_law 972 = .ok (.iaload, 1) := by decide +kernel
theorem dL_law_973 : decode cL_law 973 = .ok (.ifCond .eq 7, 3) := by decide +kernel
theorem dL_law_976 : decode cL_law 976 = .ok (.iconst 1, 1) := by decide +kernel
theorem dL_law_977 : decode cL_law 977 = .ok (.goto 4, 3) := by decide +kernel
theorem dL_law_980 : decode cL_law 980 = .ok (.iconst 0, 1) := by decide +kernel
theorem dL_law_981 : decode cL_law 981 = .ok (.invokevirtual 124, 3) := by decide +kernel
theorem dL_law_984 : decode cL_law 984 = .ok (.istore 6, 2) := by decide +kernel
theorem dL_law_986 : decode cL_law 986 = .ok (.aload_n 2, 1) := by decide +kernel
theorem dL_law_987 : decode cL_law 987 = .ok (.invokevirtual 77, 3) := by decide +kernel
theorem dL_law_990 : decode cL_law 990 = .ok (.iload 5, 2) := by decide +kernel
theorem dL_law_992 : decode cL_law 992 = .ok (.if_icmp .eq 5, 3) := by decide +kernel
theorem dL_law_995 : decode cL_law 995 = .ok (.iconst 0, 1) := by decide +kernel
theorem dL_law_996 : decode cL_law 996 = .ok (.ireturn, 1) := by decide +kernel
theorem dL_law_997 : decode cL_law 997 = .ok (.iload 5, 2) := by decide +kernel
theorem dL_law_999 : decode cL_law 999 = .ok (.ifCond .ne 15, 3) := by decide +kernel
theorem dL_law_1002 : decode cL_law 1002 = .ok (.aload_n 3, 1) := by decide +kernel
theorem dL_law_1003 : decode cL_law 1003 = .ok (.iconst 0, 1) := by decide +kernel
theorem dL_law_1004 : decode cL_law 1004 = .ok (.laload, 1) := by decide +kernel
theorem dL_law_1005 : decode cL_law 1005 = .ok (.iload 6, 2) := by decide +kernel
theorem dL_law_1007 : decode cL_law 1007 = .ok (.i2l, 1) := by decide +kernel
theorem dL_law_1008 : decode cL_law 1008 = .ok (.lcmp, 1) := by decide +kernel
theorem dL_law_1009 : decode cL_law 1009 = .ok (.ifCond .eq 5, 3) := by decide +kernel
theorem dL_law_1012 : decode cL_law 1012 = .ok (.iconst 0, 1) := by decide +kernel
theorem dL_law_1013 : decode cL_law 1013 = .ok (.ireturn, 1) := by decide +kernel
theorem dL_law_1014 : decode cL_law 1014 = .ok (.goto 195, 3) := by decide +kernel
theorem dL_law_1017 : decode cL_law 1017 = .ok (.aload_n 1, 1) := by decide +kernel
theorem dL_law_1018 : decode cL_law 1018 = .ok (.invokevirtual 125, 3) := by decide +kernel
theorem dL_law_1021 : decode cL_law 1021 = .ok (.aload_n 2, 1) := by decide +kernel
theorem dL_law_1022 : decode cL_law 1022 = .ok (.invokevirtual 128, 3) := by decide +kernel
theorem dL_law_1025 : decode cL_law 1025 = .ok (.if_icmp .eq 184, 3) := by decide +kernel
theorem dL_law_1028 : decode cL_law 1028 = .ok (.iconst 0, 1) := by decide +kernel
theorem dL_law_1029 : decode cL_law 1029 = .ok (.ireturn, 1) := by decide +kernel
theorem dL_law_1030 : decode cL_law 1030 = .ok (.aload_n 1, 1) := by decide +kernel
theorem dL_law_1031 : decode cL_law 1031 = .ok (.aload_n 0, 1) := by decide +kernel
theorem dL_law_1032 : decode cL_law 1032 = .ok (.iload 4, 2) := by decide +kernel
theorem dL_law_1034 : decode cL_law 1034 = .ok (.iconst 1, 1) := by decide +kernel
theorem dL_law_1035 : decode cL_law 1035 = .ok (.iadd, 1) := by decide +kernel
theorem dL_law_1036 : decode cL_law 1036 = .ok (.iaload, 1) := by decide +kernel
theorem dL_law_1037 : decode cL_law 1037 = .ok (.aload_n 3, 1) := by decide +kernel
theorem dL_law_1038 : decode cL_law 1038 = .ok (.invokestatic 129, 3) := by decide +kernel
theorem dL_law_1041 : decode cL_law 1041 = .ok (.istore 5, 2) := by decide +kernel
theorem dL_law_1043 : decode cL_law 1043 = .ok (.aload_n 2, 1) := by decide +kernel
theorem dL_law_1044 : decode cL_law 1044 = .ok (.aload_n 0, 1) := by decide +kernel
theorem dL_law_1045 : decode cL_law 1045 = .ok (.iload 4, 2) := by decide +kernel
theorem dL_law_1047 : decode cL_law 1047 = .ok (.iconst 1, 1) := by decide +kernel
theorem dL_law_1048 : decode cL_law 1048 = .ok (.iadd, 1) := by decide +kernel
theorem dL_law_1049 : decode cL_law 1049 = .ok (.iaload, 1) := by decide +kernel
theorem dL_law_1050 : decode cL_law 1050 = .ok (.invokevirtual 131, 3) := by decide +kernel
theorem dL_law_1053 : decode cL_law 1053 = .ok (.istore 6, 2) := by decide +kernel
theorem dL_law_1055 : decode cL_law 1055 = .ok (.aload_n 2, 1) := by decide +kernel
theorem dL_law_1056 : decode cL_law 1056 = .ok (.invokevirtual 77, 3) := by decide +kernel
theorem dL_law_1059 : decode cL_law 1059 = .ok (.iload 5, 2) := by decide +kernel
theorem dL_law_1061 : decode cL_law 1061 = .ok (.if_icmp .eq 5, 3) := by decide +kernel
theorem dL_law_1064 : decode cL_law 1064 = .ok (.iconst 0, 1) := by decide +kernel
theorem dL_law_1065 : decode cL_law 1065 = .ok (.ireturn, 1) := by decide +kernel
theorem dL_law_1066 : decode cL_law 1066 = .ok (.iload 5, 2) := by decide +kernel
theorem dL_law_1068 : decode cL_law 1068 = .ok (.ifCond .ne 15, 3) := by decide +kernel
theorem dL_law_1071 : decode cL_law 1071 = .ok (.aload_n 3, 1) := by decide +kernel
theorem dL_law_1072 : decode cL_law 1072 = .ok (.iconst 0, 1) := by decide +kernel
theorem dL_law_1073 : decode cL_law 1073 = .ok (.laload, 1) := by decide +kernel
theorem dL_law_1074 : decode cL_law 1074 = .ok (.iload 6, 2) := by decide +kernel
theorem dL_law_1076 : decode cL_law 1076 = .ok (.i2l, 1) := by decide +kernel
theorem dL_law_1077 : decode cL_law 1077 = .ok (.lcmp, 1) := by decide +kernel
theorem dL_law_1078 : decode cL_law 1078 = .ok (.ifCond .eq 5, 3) := by decide +kernel
theorem dL_law_1081 : decode cL_law 1081 = .ok (.iconst 0, 1) := by decide +kernel
theorem dL_law_1082 : decode cL_law 1082 = .ok (.ireturn, 1) := by decide +kernel
theorem dL_law_1083 : decode cL_law 1083 = .ok (.goto 126, 3) := by decide +kernel
theorem dL_law_1086 : decode cL_law 1086 = .ok (.aload_n 1, 1) := by decide +kernel
theorem dL_law_1087 : decode cL_law 1087 = .ok (.invokevirtual 132, 3) := by decide +kernel
theorem dL_law_1090 : decode cL_law 1090 = .ok (.aload_n 2, 1) := by decide +kernel
theorem dL_law_1091 : decode cL_law 1091 = .ok (.invokevirtual 135, 3) := by decide +kernel
theorem dL_law_1094 : decode cL_law 1094 = .ok (.if_icmp .eq 115, 3) := by decide +kernel
theorem dL_law_1097 : decode cL_law 1097 = .ok (.iconst 0, 1) := by decide +kernel
theorem dL_law_1098 : decode cL_law 1098 = .ok (.ireturn, 1) := by decide +kernel
theorem dL_law_1099 : decode cL_law 1099 = .ok (.aload_n 1, 1) := by decide +kernel
theorem dL_law_1100 : decode cL_law 1100 = .ok (.aload_n 0, 1) := by decide +kernel
theorem dL_law_1101 : decode cL_law 1101 = .ok (.iload 4, 2) := by decide +kernel
theorem dL_law_1103 : decode cL_law 1103 = .ok (.iconst 1, 1) := by decide +kernel
theorem dL_law_1104 : decode cL_law 1104 = .ok (.iadd, 1) := by decide +kernel
theorem dL_law_1105 : decode cL_law 1105 = .ok (.iaload, 1) := by decide +kernel
theorem dL_law_1106 : decode cL_law 1106 = .ok (.aload_n 3, 1) := by decide +kernel
theorem dL_law_1107 : decode cL_law 1107 = .ok (.invokestatic 136, 3) := by decide +kernel
theorem dL_law_1110 : decode cL_law 1110 = .ok (.istore 5, 2) := by decide +kernel
theorem dL_law_1112 : decode cL_law 1112 = .ok (.aload_n 2, 1) := by decide +kernel
theorem dL_law_1113 : decode cL_law 1113 = .ok (.aload_n 0, 1) := by decide +kernel
theorem dL_law_1114 : decode cL_law 1114 = .ok (.iload 4, 2) := by decide +kernel
theorem dL_law_1116 : decode cL_law 1116 = .ok (.iconst 1, 1) := by decide +kernel
theorem dL_law_1117 : decode cL_law 1117 = .ok (.iadd, 1) := by decide +kernel
theorem dL_law_1118 : decode cL_law 1118 = .ok (.iaload, 1) := by decide +kernel
theorem dL_law_1119 : decode cL_law 1119 = .ok (.invokevirtual 138, 3) := by decide +kernel
theorem dL_law_1122 : decode cL_law 1122 = .ok (.lstore 6, 2) := by decide +kernel
theorem dL_law_1124 : decode cL_law 1124 = .ok (.aload_n 2, 1) := by decide +kernel
theorem dL_law_1125 : decode cL_law 1125 = .ok (.invokevirtual 77, 3) := by decide +kernel
theorem dL_law_1128 : decode cL_law 1128 = .ok (.iload 5, 2) := by decide +kernel
theorem dL_law_1130 : decode cL_law 1130 = .ok (.if_icmp .eq 5, 3) := by decide +kernel
theorem dL_law_1133 : decode cL_law 1133 = .ok (.iconst 0, 1) := by decide +kernel
theorem dL_law_1134 : decode cL_law 1134 = .ok (.ireturn, 1) := by decide +kernel
theorem dL_law_1135 : decode cL_law 1135 = .ok (.iload 5, 2) := by decide +kernel
theorem dL_law_1137 : decode cL_law 1137 = .ok (.ifCond .ne 14, 3) := by decide +kernel
theorem dL_law_1140 : decode cL_law 1140 = .ok (.aload_n 3, 1) := by decide +kernel
theorem dL_law_1141 : decode cL_law 1141 = .ok (.iconst 0, 1) := by decide +kernel
theorem dL_law_1142 : decode cL_law 1142 = .ok (.laload, 1) := by decide +kernel
theorem dL_law_1143 : decode cL_law 1143 = .ok (.lload 6, 2) := by decide +kernel
theorem dL_law_1145 : decode cL_law 1145 = .ok (.lcmp, 1) := by decide +kernel
theorem dL_law_1146 : decode cL_law 1146 = .ok (.ifCond .eq 5, 3) := by decide +kernel
theorem dL_law_1149 : decode cL_law 1149 = .ok (.iconst 0, 1) := by decide +kernel
theorem dL_law_1150 : decode cL_law 1150 = .ok (.ireturn, 1) := by decide +kernel
theorem dL_law_1151 : decode cL_law 1151 = .ok (.goto 58, 3) := by decide +kernel
theorem dL_law_1154 : decode cL_law 1154 = .ok (.aload_n 1, 1) := by decide +kernel
theorem dL_law_1155 : decode cL_law 1155 = .ok (.aload_n 0, 1) := by decide +kernel
theorem dL_law_1156 : decode cL_law 1156 = .ok (.iload 4, 2) := by decide +kernel
theorem dL_law_1158 : decode cL_law 1158 = .ok (.iconst 1, 1) := by decide +kernel
theorem dL_law_1159 : decode cL_law 1159 = .ok (.iadd, 1) := by decide +kernel
theorem dL_law_1160 : decode cL_law 1160 = .ok (.iaload, 1) := by decide +kernel
theorem dL_law_1161 : decode cL_law 1161 = .ok (.aload_n 3, 1) := by decide +kernel
theorem dL_law_1162 : decode cL_law 1162 = .ok (.invokestatic 139, 3) := by decide +kernel
theorem dL_law_1165 : decode cL_law 1165 = .ok (.istore 5, 2) := by decide +kernel
theorem dL_law_1167 : decode cL_law 1167 = .ok (.aload_n 2, 1) := by decide +kernel
theorem dL_law_1168 : decode cL_law 1168 = .ok (.aload_n 0, 1) := by decide +kernel
theorem dL_law_1169 : decode cL_law 1169 = .ok (.iload 4, 2) := by decide +kernel
theorem dL_law_1171 : decode cL_law 1171 = .ok (.iconst 1, 1) := by decide +kernel
theorem dL_law_1172 : decode cL_law 1172 = .ok (.iadd, 1) := by decide +kernel
theorem dL_law_1173 : decode cL_law 1173 = .ok (.iaload, 1) := by decide +kernel
theorem dL_law_1174 : decode cL_law 1174 = .ok (.invokevirtual 141, 3) := by decide +kernel
theorem dL_law_1177 : decode cL_law 1177 = .ok (.lstore 6, 2) := by decide +kernel
theorem dL_law_1179 : decode cL_law 1179 = .ok (.aload_n 2, 1) := by decide +kernel
theorem dL_law_1180 : decode cL_law 1180 = .ok (.invokevirtual 77, 3) := by decide +kernel
theorem dL_law_1183 : decode cL_law 1183 = .ok (.iload 5, 2) := by decide +kernel
theorem dL_law_1185 : decode cL_law 1185 = .ok (.if_icmp .eq 5, 3) := by decide +kernel
theorem dL_law_1188 : decode cL_law 1188 = .ok (.iconst 0, 1) := by decide +kernel
theorem dL_law_1189 : decode cL_law 1189 = .ok (.ireturn, 1) := by decide +kernel
theorem dL_law_1190 : decode cL_law 1190 = .ok (.iload 5, 2) := by decide +kernel
theorem dL_law_1192 : decode cL_law 1192 = .ok (.ifCond .ne 14, 3) := by decide +kernel
theorem dL_law_1195 : decode cL_law 1195 = .ok (.aload_n 3, 1) := by decide +kernel
theorem dL_law_1196 : decode cL_law 1196 = .ok (.iconst 0, 1) := by decide +kernel
theorem dL_law_1197 : decode cL_law 1197 = .ok (.laload, 1) := by decide +kernel
theorem dL_law_1198 : decode cL_law 1198 = .ok (.lload 6, 2) := by decide +kernel
theorem dL_law_1200 : decode cL_law 1200 = .ok (.lcmp, 1) := by decide +kernel
theorem dL_law_1201 : decode cL_law 1201 = .ok (.ifCond .eq 5, 3) := by decide +kernel
theorem dL_law_1204 : decode cL_law 1204 = .ok (.iconst 0, 1) := by decide +kernel
theorem dL_law_1205 : decode cL_law 1205 = .ok (.ireturn, 1) := by decide +kernel
theorem dL_law_1206 : decode cL_law 1206 = .ok (.goto 3, 3) := by decide +kernel
theorem dL_law_1209 : decode cL_law 1209 = .ok (.iinc 4 7, 3) := by decide +kernel
theorem dL_law_1212 : decode cL_law 1212 = .ok (.goto (-1189), 3) := by decide +kernel
theorem dL_law_1215 : decode cL_law 1215 = .ok (.iconst 1, 1) := by decide +kernel
theorem dL_law_1216 : decode cL_law 1216 = .ok (.ireturn, 1) := by decide +kernel
end
section
/-! ===== one list of all words that the methods need ===== -/
def WA0 : List Cond := [.fieldLink RX3 13 "LampLine$Row" "size" "I",
  .fieldLink RX3 7 "LampLine$Row" "cells" "[I",
  .constant RX3 21 (65535),
  .methodLink RX0 9 yX3_cut,
  .instanceMethod yX3_cut,
  .selects RX3 yX3_cut yX3_cut,
  .initialized RX3,
  .code yX3_cut cX3_cut 2 none,
  .methodLink RX0 17 yX3_put,
  .instanceMethod yX3_put,
  .selects RX3 yX3_put yX3_put,
  .code yX3_put cX3_put 2 none,
  .methodLink RX0 20 yX3_sum,
  .instanceMethod yX3_sum,
  .selects RX3 yX3_sum yX3_sum,
  .code yX3_sum cX3_sum 5 (some .int),
  .constantLong RX0 28 (-1),
  .constantLong RX0 34 (65535),
  .methodLink RX0 24 yX3_size,
  .instanceMethod yX3_size,
  .selects RX3 yX3_size yX3_size,
  .code yX3_size cX3_size 1 (some .int),
  .methodLink RX0 30 yX3_at,
  .instanceMethod yX3_at,
  .selects RX3 yX3_at yX3_at,
  .code yX3_at cX3_at 2 (some .int),
  .methodLink RX3 1 objectInit,
  .instanceMethod objectInit,
  .code objectInit ⟨#[0xb1]⟩ 1 none,
  .arrayClass .int,
  .methodLink RX1 3 objectInit,
  .fieldLink RX1 9 "LampLine$Lamp" "levels" "[I",
  .classLink RX1 15 RX3,
  .instantiable RX3 2,
  .fieldLink RX1 20 "LampLine$Lamp" "text" "LLampLine$Row;",
  .fieldLink RX1 24 "LampLine$Lamp" "laterTexts" "[LLampLine$Row;",
  .arrayClass .boolean,
  .fieldLink RX1 28 "LampLine$Lamp" "isLater" "[Z",
  .fieldLink RX1 32 "LampLine$Lamp" "mode" "I",
  .fieldLink RX1 36 "LampLine$Lamp" "id" "J"]
def WA1 : List Cond := [.fieldLink RX1 40 "LampLine$Lamp" "width" "I",
  .fieldLink RX1 43 "LampLine$Lamp" "modes" "I",
  .fieldLink RX1 46 "LampLine$Lamp" "address" "I",
  .methodLink RX1 17 yX3_init,
  .instanceMethod yX3_init,
  .code yX3_init cX3_init 2 none,
  .fieldLink RX1 49 "LampLine$Lamp" "litAt" "I",
  .fieldLink RX1 60 "LampLine$Lamp" "silent" "Z",
  .fieldLink RX1 68 "LampLine$Lamp" "shows" "Z",
  .fieldLink RX1 75 "LampLine$Lamp" "waiting" "I",
  .fieldLink RX1 81 "LampLine$Lamp" "orders" "I",
  .static yX6_makerOf,
  .initialized RX6,
  .code yX6_makerOf cX6_makerOf 2 (some .int),
  .methodLink RX1 56 yX1_footprint,
  .instanceMethod yX1_footprint,
  .selects RX1 yX1_footprint yX1_footprint,
  .initialized RX1,
  .code yX1_footprint cX1_footprint 1 (some .int),
  .static yX6_flag,
  .code yX6_flag cX6_flag 1 (some .int),
  .methodLink RX1 71 yX1_isDark,
  .instanceMethod yX1_isDark,
  .selects RX1 yX1_isDark yX1_isDark,
  .code yX1_isDark cX1_isDark 2 (some .boolean),
  .methodLink RX1 78 yX3_size,
  .fieldLink RX1 88 "LampLine$Lamp" "onTheWay" "I",
  .methodLink RX1 84 yX3_copyFrom,
  .instanceMethod yX3_copyFrom,
  .selects RX3 yX3_copyFrom yX3_copyFrom,
  .code yX3_copyFrom cX3_copyFrom 3 none,
  .methodLink RX1 91 Lib.Math.min.name,
  .static Lib.Math.min.name,
  .initialized "java/lang/Math",
  .code Lib.Math.min.name Lib.Math.min.code 2 (some .int),
  .methodLink RX1 97 yX3_at,
  .constantLong RX6 60 (4294967295),
  .constantLong RX1 105 (4294967295),
  .constant RX1 107 (65535),
  .static yX6_restOf]
def WA2 : List Cond := [.code yX6_restOf cX6_restOf 2 (some .long),
  .methodLink RX3 17 yX3_at,
  .fieldLink RX2 20 "LampLine$Packet" "to" "J",
  .constantLong RX2 28 (4294967295),
  .fieldLink RX2 46 "LampLine$Packet" "from" "J",
  .fieldLink RX2 49 "LampLine$Packet" "count" "I",
  .fieldLink RX2 53 "LampLine$Packet" "kind" "I",
  .fieldLink RX2 59 "LampLine$Packet" "part" "I",
  .fieldLink RX2 62 "LampLine$Packet" "group" "I",
  .fieldLink RX2 65 "LampLine$Packet" "matter" "I",
  .fieldLink RX2 16 "LampLine$Packet" "data" "LLampLine$Row;",
  .methodLink RX2 68 yX3_cut,
  .fieldLink RX2 56 "LampLine$Packet" "messages" "I",
  .methodLink RX2 34 yX3_size,
  .methodLink RX2 71 yX3_put,
  .methodLink RX2 74 yX3_putNumber,
  .instanceMethod yX3_putNumber,
  .selects RX3 yX3_putNumber yX3_putNumber,
  .code yX3_putNumber cX3_putNumber 5 none,
  .methodLink RX2 30 yX3_at,
  .methodLink RX2 38 yX3_sum,
  .methodLink RX1 131 yX3_number,
  .instanceMethod yX3_number,
  .selects RX3 yX3_number yX3_number,
  .code yX3_number cX3_number 6 (some .long),
  .methodLink RX1 135 yX0_write,
  .static yX0_write,
  .initialized RX0,
  .code yX0_write cX0_write 5 none,
  .methodLink RX1 117 yX2_isCall,
  .instanceMethod yX2_isCall,
  .selects RX2 yX2_isCall yX2_isCall,
  .initialized RX2,
  .code yX2_isCall cX2_isCall 1 (some .boolean),
  .methodLink RX1 141 yX2_beginReply,
  .instanceMethod yX2_beginReply,
  .selects RX2 yX2_beginReply yX2_beginReply,
  .code yX2_beginReply cX2_beginReply 4 none,
  .methodLink RX1 145 yX3_putNumber,
  .methodLink RX1 152 yX2_writeTo]
def WA3 : List Cond := [.instanceMethod yX2_writeTo,
  .selects RX2 yX2_writeTo yX2_writeTo,
  .code yX2_writeTo cX2_writeTo 4 none,
  .fieldLink RX1 180 "LampLine$Lamp" "MATTERS" "[I",
  .methodLink RX1 177 yX1_isKnown,
  .static yX1_isKnown,
  .code yX1_isKnown cX1_isKnown 2 (some .boolean),
  .static yX6_fits,
  .code yX6_fits cX6_fits 2 (some .boolean),
  .constantLong RX1 190 (3),
  .methodLink RX1 192 yX3_put,
  .methodLink RX1 158 yX1_formRefusal,
  .static yX1_formRefusal,
  .code yX1_formRefusal cX1_formRefusal 4 (some .int),
  .methodLink RX1 162 yX1_valueRefusal,
  .instanceMethod yX1_valueRefusal,
  .selects RX1 yX1_valueRefusal yX1_valueRefusal,
  .code yX1_valueRefusal cX1_valueRefusal 6 (some .int),
  .methodLink RX1 166 yX2_refuse,
  .instanceMethod yX2_refuse,
  .selects RX2 yX2_refuse yX2_refuse,
  .code yX2_refuse cX2_refuse 2 none,
  .methodLink RX1 169 yX1_obey,
  .instanceMethod yX1_obey,
  .selects RX1 yX1_obey yX1_obey,
  .code yX1_obey cX1_obey 7 none,
  .methodLink RX1 173 yX1_tell,
  .instanceMethod yX1_tell,
  .selects RX1 yX1_tell yX1_tell,
  .code yX1_tell cX1_tell 6 none,
  .methodLink RX1 113 yX1_speaksToSearch,
  .instanceMethod yX1_speaksToSearch,
  .selects RX1 yX1_speaksToSearch yX1_speaksToSearch,
  .code yX1_speaksToSearch cX1_speaksToSearch 5 (some .boolean),
  .methodLink RX1 121 yX1_speaksToOrder,
  .instanceMethod yX1_speaksToOrder,
  .selects RX1 yX1_speaksToOrder yX1_speaksToOrder,
  .code yX1_speaksToOrder cX1_speaksToOrder 8 (some .boolean),
  .methodLink RX2 5 objectInit,
  .classLink RX2 11 RX3]
def WA4 : List Cond := [.methodLink RX2 13 yX3_init,
  .methodLink RX2 42 yX3_number,
  .methodLink RX4 3 objectInit,
  .arrayClass .long,
  .fieldLink RX4 11 "LampLine$Search" "lows" "[J",
  .fieldLink RX4 15 "LampLine$Search" "highs" "[J",
  .fieldLink RX4 18 "LampLine$Search" "foundIds" "[J",
  .fieldLink RX4 25 "LampLine$Search" "depth" "I",
  .fieldLink RX4 21 "LampLine$Search" "begun" "Z",
  .fieldLink RX4 29 "LampLine$Search" "foundCount" "I",
  .fieldLink RX4 32 "LampLine$Search" "steps" "I",
  .constantLong RX4 35 (281474976710654),
  .methodLink RX4 37 yX4_pile,
  .instanceMethod yX4_pile,
  .selects RX4 yX4_pile yX4_pile,
  .initialized RX4,
  .code yX4_pile cX4_pile 5 none,
  .constantLong RX4 41 (-1),
  .methodLink RX4 43 yX4_hasFound,
  .instanceMethod yX4_hasFound,
  .selects RX4 yX4_hasFound yX4_hasFound,
  .code yX4_hasFound cX4_hasFound 4 (some .boolean),
  .methodLink RX5 1 objectInit,
  .fieldLink RX5 9 "LampLine$Spoils" "places" "[I",
  .fieldLink RX5 13 "LampLine$Spoils" "masks" "[I",
  .fieldLink RX5 16 "LampLine$Spoils" "size" "I",
  .methodLink RX5 20 yX5_dropFirst,
  .instanceMethod yX5_dropFirst,
  .selects RX5 yX5_dropFirst yX5_dropFirst,
  .initialized RX5,
  .code yX5_dropFirst cX5_dropFirst 2 none,
  .methodLink RX5 23 yX3_flip,
  .instanceMethod yX3_flip,
  .selects RX3 yX3_flip yX3_flip,
  .code yX3_flip cX3_flip 3 none,
  .methodLink RX6 1 objectInit,
  .classLink RX6 7 RX3,
  .fieldLink RX6 14 "LampLine" "tape" "LLampLine$Row;",
  .fieldLink RX6 18 "LampLine" "frame" "LLampLine$Row;",
  .fieldLink RX6 23 "LampLine" "voice" "LLampLine$Row;"]
def WA5 : List Cond := [.fieldLink RX6 26 "LampLine" "heardAnswer" "LLampLine$Row;",
  .classLink RX6 21 RX2,
  .instantiable RX2 9,
  .fieldLink RX6 30 "LampLine" "question" "LLampLine$Packet;",
  .fieldLink RX6 34 "LampLine" "heard" "LLampLine$Packet;",
  .fieldLink RX6 37 "LampLine" "reply" "LLampLine$Packet;",
  .classLink RX6 40 RX5,
  .instantiable RX5 3,
  .fieldLink RX6 43 "LampLine" "spoils" "LLampLine$Spoils;",
  .classLink RX6 47 RX4,
  .instantiable RX4 7,
  .fieldLink RX6 50 "LampLine" "hunt" "LLampLine$Search;",
  .classLink RX6 54 RX1,
  .fieldLink RX6 56 "LampLine" "lamps" "[LLampLine$Lamp;",
  .methodLink RX6 11 yX3_init,
  .instanceMethod yX2_init,
  .code yX2_init cX2_init 1 none,
  .instanceMethod yX5_init,
  .code yX5_init cX5_init 1 none,
  .instanceMethod yX4_init,
  .code yX4_init cX4_init 1 none,
  .fieldLink RX6 87 "LampLine" "lampCount" "I",
  .classLink RX6 62 "java/lang/IllegalArgumentException",
  .initialized "java/lang/IllegalArgumentException",
  .classLink RX6 91 "java/lang/IllegalStateException",
  .initialized "java/lang/IllegalStateException",
  .instantiable RX1 15,
  .methodLink RX6 71 yX6_fits,
  .methodLink RX6 77 yX6_joinedId,
  .static yX6_joinedId,
  .code yX6_joinedId cX6_joinedId 3 (some .long),
  .methodLink RX6 81 yX6_isThere,
  .instanceMethod yX6_isThere,
  .selects RX6 yX6_isThere yX6_isThere,
  .code yX6_isThere cX6_isThere 4 (some .boolean),
  .methodLink RX6 96 yX1_init,
  .instanceMethod yX1_init,
  .code yX1_init cX1_init 7 none,
  .methodLink RX6 99 yX3_size,
  .methodLink RX6 105 yX3_putNumber]
def WA6 : List Cond := [.methodLink RX6 111 yX3_cut,
  .fieldLink RX6 160 "LampLine" "frameCount" "I",
  .methodLink RX6 126 yX3_at,
  .methodLink RX6 246 yX2_readFrom,
  .instanceMethod yX2_readFrom,
  .selects RX2 yX2_readFrom yX2_readFrom,
  .code yX2_readFrom cX2_readFrom 4 (some .boolean),
  .methodLink RX6 250 yX1_ripen,
  .instanceMethod yX1_ripen,
  .selects RX1 yX1_ripen yX1_ripen,
  .code yX1_ripen cX1_ripen 3 none,
  .methodLink RX6 253 yX1_shine,
  .instanceMethod yX1_shine,
  .selects RX1 yX1_shine yX1_shine,
  .code yX1_shine cX1_shine 5 none,
  .methodLink RX6 260 yX1_isMeantBy,
  .instanceMethod yX1_isMeantBy,
  .selects RX1 yX1_isMeantBy yX1_isMeantBy,
  .code yX1_isMeantBy cX1_isMeantBy 3 (some .boolean),
  .methodLink RX6 263 yX1_speaksTo,
  .instanceMethod yX1_speaksTo,
  .selects RX1 yX1_speaksTo yX1_speaksTo,
  .code yX1_speaksTo cX1_speaksTo 5 (some .boolean),
  .methodLink RX6 267 yX3_join,
  .instanceMethod yX3_join,
  .selects RX3 yX3_join yX3_join,
  .code yX3_join cX3_join 3 none,
  .methodLink RX6 270 yX5_applyTo,
  .instanceMethod yX5_applyTo,
  .selects RX5 yX5_applyTo yX5_applyTo,
  .code yX5_applyTo cX5_applyTo 3 none,
  .methodLink RX6 114 yX3_copyFrom,
  .methodLink RX6 118 yX6_runFrame,
  .instanceMethod yX6_runFrame,
  .selects RX6 yX6_runFrame yX6_runFrame,
  .code yX6_runFrame cX6_runFrame 5 none,
  .classLink RX6 121 "java/lang/IndexOutOfBoundsException",
  .initialized "java/lang/IndexOutOfBoundsException",
  .fieldLink RX6 273 "LampLine" "questionCount" "I",
  .constantLong RX6 276 (140728898420737)]
def WA7 : List Cond := [.constant RX6 130 (65535),
  .methodLink RX6 135 yX6_beginQuestion,
  .instanceMethod yX6_beginQuestion,
  .selects RX6 yX6_beginQuestion yX6_beginQuestion,
  .code yX6_beginQuestion cX6_beginQuestion 5 none,
  .methodLink RX6 145 yX2_writeTo,
  .methodLink RX6 148 yX6_isReplyFrom,
  .instanceMethod yX6_isReplyFrom,
  .selects RX6 yX6_isReplyFrom yX6_isReplyFrom,
  .code yX6_isReplyFrom cX6_isReplyFrom 3 (some .boolean),
  .methodLink RX6 156 yX5_add,
  .instanceMethod yX5_add,
  .selects RX5 yX5_add yX5_add,
  .code yX5_add cX5_add 3 none,
  .methodLink RX6 163 yX6_lampAt,
  .instanceMethod yX6_lampAt,
  .selects RX6 yX6_lampAt yX6_lampAt,
  .code yX6_lampAt cX6_lampAt 2 (some (.object "LampLine$Lamp")),
  .methodLink RX6 169 yX1_fact,
  .instanceMethod yX1_fact,
  .selects RX1 yX1_fact yX1_fact,
  .code yX1_fact cX1_fact 3 (some .int),
  .methodLink RX6 177 yX6_restOf,
  .methodLink RX6 181 yX1_footprint,
  .methodLink RX6 186 yX1_levelAt,
  .instanceMethod yX1_levelAt,
  .selects RX1 yX1_levelAt yX1_levelAt,
  .code yX1_levelAt cX1_levelAt 2 (some .int),
  .methodLink RX6 198 yX6_flag,
  .constantLong RX6 205 (281474976710655),
  .methodLink RX6 202 yX4_begin,
  .instanceMethod yX4_begin,
  .selects RX4 yX4_begin yX4_begin,
  .code yX4_begin cX4_begin 1 none,
  .methodLink RX6 207 yX6_writeSearch,
  .instanceMethod yX6_writeSearch,
  .selects RX6 yX6_writeSearch yX6_writeSearch,
  .code yX6_writeSearch cX6_writeSearch 4 none,
  .methodLink RX6 316 yX4_keepFound,
  .instanceMethod yX4_keepFound]
def WA8 : List Cond := [.selects RX4 yX4_keepFound yX4_keepFound,
  .code yX4_keepFound cX4_keepFound 3 none,
  .methodLink RX6 237 yX4_latestLow,
  .instanceMethod yX4_latestLow,
  .selects RX4 yX4_latestLow yX4_latestLow,
  .code yX4_latestLow cX4_latestLow 1 (some .long),
  .methodLink RX6 241 yX4_latestHigh,
  .instanceMethod yX4_latestHigh,
  .selects RX4 yX4_latestHigh yX4_latestHigh,
  .code yX4_latestHigh cX4_latestHigh 1 (some .long),
  .methodLink RX6 293 yX4_takeLatest,
  .instanceMethod yX4_takeLatest,
  .selects RX4 yX4_takeLatest yX4_takeLatest,
  .code yX4_takeLatest cX4_takeLatest 1 none,
  .methodLink RX6 296 yX6_tryId,
  .instanceMethod yX6_tryId,
  .selects RX6 yX6_tryId yX6_tryId,
  .code yX6_tryId cX6_tryId 3 (some .int),
  .methodLink RX6 300 yX4_pile,
  .methodLink RX6 304 yX6_writeBranchSearch,
  .instanceMethod yX6_writeBranchSearch,
  .selects RX6 yX6_writeBranchSearch yX6_writeBranchSearch,
  .code yX6_writeBranchSearch cX6_writeBranchSearch 5 none,
  .methodLink RX6 307 yX0_read,
  .static yX0_read,
  .code yX0_read cX0_read 6 (some .long),
  .methodLink RX6 313 yX4_hasFound,
  .methodLink RX6 220 yX6_takeStep,
  .instanceMethod yX6_takeStep,
  .selects RX6 yX6_takeStep yX6_takeStep,
  .code yX6_takeStep cX6_takeStep 10 none,
  .methodLink RX7 1 objectInit,
  .fieldLink RX7 7 "LampLineModel" "maker" "[I",
  .fieldLink RX7 13 "LampLineModel" "rest" "[J",
  .fieldLink RX7 17 "LampLineModel" "width" "[I",
  .fieldLink RX7 20 "LampLineModel" "modes" "[I",
  .fieldLink RX7 23 "LampLineModel" "mode" "[I",
  .fieldLink RX7 26 "LampLineModel" "address" "[I",
  .fieldLink RX7 29 "LampLineModel" "silent" "[Z",
  .fieldLink RX7 33 "LampLineModel" "shows" "[Z"]
def WA9 : List Cond := [.fieldLink RX7 36 "LampLineModel" "labelSize" "[I",
  .arrayClass .byte,
  .fieldLink RX7 39 "LampLineModel" "label" "[B",
  .fieldLink RX7 43 "LampLineModel" "asked" "[I",
  .fieldLink RX7 46 "LampLineModel" "levels" "[I",
  .fieldLink RX7 49 "LampLineModel" "lit" "[I",
  .fieldLink RX7 52 "LampLineModel" "laters" "[I",
  .fieldLink RX7 55 "LampLineModel" "due" "[I",
  .fieldLink RX7 58 "LampLineModel" "laterSize" "[I",
  .fieldLink RX7 61 "LampLineModel" "laterBytes" "[B",
  .fieldLink RX7 64 "LampLineModel" "tape" "[B",
  .fieldLink RX7 67 "LampLineModel" "frame" "[B",
  .fieldLink RX7 70 "LampLineModel" "answer" "[B",
  .fieldLink RX7 73 "LampLineModel" "reply" "[B",
  .fieldLink RX7 76 "LampLineModel" "spoilAt" "[I",
  .fieldLink RX7 79 "LampLineModel" "spoilMask" "[I",
  .fieldLink RX7 82 "LampLineModel" "low" "[J",
  .fieldLink RX7 85 "LampLineModel" "high" "[J",
  .fieldLink RX7 88 "LampLineModel" "foundId" "[J",
  .fieldLink RX7 91 "LampLineModel" "thrown" "I",
  .methodLink RX7 95 yX7_idOf,
  .static yX7_idOf,
  .initialized RX7,
  .code yX7_idOf cX7_idOf 3 (some .long),
  .constantLong RX7 99 (32767),
  .constantLong RX7 105 (4294967294),
  .constantLong RX7 107 (64),
  .constantLong RX7 109 (8),
  .constantLong RX7 111 (512),
  .fieldLink RX7 113 "LampLineModel" "lamps" "I",
  .methodLink RX7 101 yX7_in,
  .static yX7_in,
  .code yX7_in cX7_in 6 (some .boolean),
  .fieldLink RX7 116 "LampLineModel" "taped" "I",
  .methodLink RX7 119 yX7_goes,
  .instanceMethod yX7_goes,
  .selects RX7 yX7_goes yX7_goes,
  .code yX7_goes cX7_goes 2 (some .boolean),
  .methodLink RX7 123 yX7_at,
  .instanceMethod yX7_at]
def WA10 : List Cond := [.selects RX7 yX7_at yX7_at,
  .code yX7_at cX7_at 2 (some .int),
  .constantLong RX7 127 (256),
  .fieldLink RX7 129 "LampLineModel" "frames" "I",
  .fieldLink RX7 138 "LampLineModel" "frameSize" "I",
  .methodLink RX7 173 yX7_footprint,
  .instanceMethod yX7_footprint,
  .selects RX7 yX7_footprint yX7_footprint,
  .code yX7_footprint cX7_footprint 2 (some .int),
  .constant RX7 176 (65536),
  .methodLink RX7 177 yX7_two,
  .instanceMethod yX7_two,
  .selects RX7 yX7_two yX7_two,
  .code yX7_two cX7_two 2 (some .int),
  .fieldLink RX7 160 "LampLineModel" "replySize" "I",
  .methodLink RX7 180 yX7_put,
  .instanceMethod yX7_put,
  .selects RX7 yX7_put yX7_put,
  .code yX7_put cX7_put 2 none,
  .methodLink RX7 153 yX7_ownId,
  .instanceMethod yX7_ownId,
  .selects RX7 yX7_ownId yX7_ownId,
  .code yX7_ownId cX7_ownId 2 (some .long),
  .methodLink RX7 183 yX7_putId,
  .instanceMethod yX7_putId,
  .selects RX7 yX7_putId yX7_putId,
  .code yX7_putId cX7_putId 4 none,
  .methodLink RX7 187 yX7_putTwo,
  .instanceMethod yX7_putTwo,
  .selects RX7 yX7_putTwo yX7_putTwo,
  .code yX7_putTwo cX7_putTwo 2 none,
  .methodLink RX7 190 yX7_waiting,
  .instanceMethod yX7_waiting,
  .selects RX7 yX7_waiting yX7_waiting,
  .code yX7_waiting cX7_waiting 4 (some .int),
  .methodLink RX7 149 yX7_six,
  .instanceMethod yX7_six,
  .selects RX7 yX7_six yX7_six,
  .code yX7_six cX7_six 5 (some .long),
  .methodLink RX7 202 yX7_show]
def WA11 : List Cond := [.instanceMethod yX7_show,
  .selects RX7 yX7_show yX7_show,
  .code yX7_show cX7_show 6 none,
  .methodLink RX7 205 yX7_begin,
  .instanceMethod yX7_begin,
  .selects RX7 yX7_begin yX7_begin,
  .code yX7_begin cX7_begin 6 none,
  .methodLink RX7 209 yX7_finish,
  .instanceMethod yX7_finish,
  .selects RX7 yX7_finish yX7_finish,
  .code yX7_finish cX7_finish 4 none,
  .methodLink RX7 212 yX7_refuse,
  .instanceMethod yX7_refuse,
  .selects RX7 yX7_refuse yX7_refuse,
  .code yX7_refuse cX7_refuse 4 none,
  .methodLink RX7 216 yX7_isMatter,
  .static yX7_isMatter,
  .code yX7_isMatter cX7_isMatter 1 (some .boolean),
  .methodLink RX7 220 yX7_getWaiting,
  .instanceMethod yX7_getWaiting,
  .selects RX7 yX7_getWaiting yX7_getWaiting,
  .code yX7_getWaiting cX7_getWaiting 6 none,
  .methodLink RX7 223 yX7_tell,
  .instanceMethod yX7_tell,
  .selects RX7 yX7_tell yX7_tell,
  .code yX7_tell cX7_tell 5 none,
  .constantLong RX7 235 (32),
  .constantLong RX7 237 (126),
  .constant RX7 227 (65535),
  .methodLink RX7 228 yX7_mayBe,
  .instanceMethod yX7_mayBe,
  .selects RX7 yX7_mayBe yX7_mayBe,
  .code yX7_mayBe cX7_mayBe 6 (some .boolean),
  .methodLink RX7 232 yX7_setLabel,
  .instanceMethod yX7_setLabel,
  .selects RX7 yX7_setLabel yX7_setLabel,
  .code yX7_setLabel cX7_setLabel 6 none,
  .methodLink RX7 193 yX7_hearSearch,
  .instanceMethod yX7_hearSearch,
  .selects RX7 yX7_hearSearch yX7_hearSearch]
def WA12 : List Cond := [.code yX7_hearSearch cX7_hearSearch 7 none,
  .methodLink RX7 196 yX7_get,
  .instanceMethod yX7_get,
  .selects RX7 yX7_get yX7_get,
  .code yX7_get cX7_get 3 none,
  .methodLink RX7 199 yX7_set,
  .instanceMethod yX7_set,
  .selects RX7 yX7_set yX7_set,
  .code yX7_set cX7_set 6 none,
  .fieldLink RX7 135 "LampLineModel" "answered" "I",
  .constantLong RX7 156 (4294967295),
  .constantLong RX7 158 (65535),
  .fieldLink RX7 170 "LampLineModel" "spoils" "I",
  .methodLink RX7 132 yX7_doDue,
  .instanceMethod yX7_doDue,
  .selects RX7 yX7_doDue yX7_doDue,
  .code yX7_doDue cX7_doDue 5 none,
  .methodLink RX7 141 yX7_takeLevels,
  .instanceMethod yX7_takeLevels,
  .selects RX7 yX7_takeLevels yX7_takeLevels,
  .code yX7_takeLevels cX7_takeLevels 3 none,
  .methodLink RX7 145 yX7_isPacket,
  .instanceMethod yX7_isPacket,
  .selects RX7 yX7_isPacket yX7_isPacket,
  .code yX7_isPacket cX7_isPacket 3 (some .boolean),
  .methodLink RX7 163 yX7_hear,
  .instanceMethod yX7_hear,
  .selects RX7 yX7_hear yX7_hear,
  .code yX7_hear cX7_hear 3 none,
  .methodLink RX7 167 yX7_fall,
  .instanceMethod yX7_fall,
  .selects RX7 yX7_fall yX7_fall,
  .code yX7_fall cX7_fall 2 none,
  .methodLink RX7 239 yX7_look,
  .instanceMethod yX7_look,
  .selects RX7 yX7_look yX7_look,
  .code yX7_look cX7_look 6 none,
  .methodLink RX7 242 yX7_write,
  .instanceMethod yX7_write,
  .selects RX7 yX7_write yX7_write]
def WA13 : List Cond := [.code yX7_write cX7_write 2 none,
  .fieldLink RX7 245 "LampLineModel" "counted" "I",
  .methodLink RX7 248 yX7_writeSix,
  .instanceMethod yX7_writeSix,
  .selects RX7 yX7_writeSix yX7_writeSix,
  .code yX7_writeSix cX7_writeSix 4 none,
  .methodLink RX7 251 yX7_heard,
  .instanceMethod yX7_heard,
  .selects RX7 yX7_heard yX7_heard,
  .code yX7_heard cX7_heard 2 (some .int),
  .methodLink RX7 254 yX7_heardSix,
  .instanceMethod yX7_heardSix,
  .selects RX7 yX7_heardSix yX7_heardSix,
  .code yX7_heardSix cX7_heardSix 5 (some .long),
  .constantLong RX7 257 (255),
  .methodLink RX7 259 yX7_beginPacket,
  .instanceMethod yX7_beginPacket,
  .selects RX7 yX7_beginPacket yX7_beginPacket,
  .code yX7_beginPacket cX7_beginPacket 6 none,
  .methodLink RX7 263 yX7_sendOff,
  .instanceMethod yX7_sendOff,
  .selects RX7 yX7_sendOff yX7_sendOff,
  .code yX7_sendOff cX7_sendOff 3 none,
  .methodLink RX7 266 yX7_isReply,
  .instanceMethod yX7_isReply,
  .selects RX7 yX7_isReply yX7_isReply,
  .code yX7_isReply cX7_isReply 5 (some .boolean),
  .constantLong RX7 270 (300),
  .constantLong RX7 275 (10),
  .methodLink RX7 272 yX7_isLamp,
  .instanceMethod yX7_isLamp,
  .selects RX7 yX7_isLamp yX7_isLamp,
  .code yX7_isLamp cX7_isLamp 2 (some .boolean),
  .fieldLink RX7 277 "LampLineModel" "searching" "Z",
  .fieldLink RX7 281 "LampLineModel" "steps" "I",
  .fieldLink RX7 284 "LampLineModel" "found" "I",
  .fieldLink RX7 287 "LampLineModel" "branches" "I",
  .constantLong RX7 290 (281474976710654),
  .constantLong RX7 292 (281474976710655),
  .methodLink RX7 294 yX7_isFound]
def WA14 : List Cond := [.instanceMethod yX7_isFound,
  .selects RX7 yX7_isFound yX7_isFound,
  .code yX7_isFound cX7_isFound 5 (some .boolean),
  .constantLong RX7 297 (-1),
  .constantLong RX7 314 (2),
  .methodLink RX7 299 yX7_isId,
  .static yX7_isId,
  .code yX7_isId cX7_isId 2 (some .boolean),
  .methodLink RX7 302 yX7_tried,
  .instanceMethod yX7_tried,
  .selects RX7 yX7_tried yX7_tried,
  .code yX7_tried cX7_tried 3 (some .int),
  .methodLink RX7 306 yX7_push,
  .instanceMethod yX7_push,
  .selects RX7 yX7_push yX7_push,
  .code yX7_push cX7_push 5 none,
  .methodLink RX7 310 yX7_shown,
  .instanceMethod yX7_shown,
  .selects RX7 yX7_shown yX7_shown,
  .code yX7_shown cX7_shown 8 (some .long),
  .constantLong RX7 316 (1000),
  .methodLink RX7 318 yX7_stepOnce,
  .instanceMethod yX7_stepOnce,
  .selects RX7 yX7_stepOnce yX7_stepOnce,
  .code yX7_stepOnce cX7_stepOnce 9 none,
  .classLink RL 13 "java/lang/IllegalArgumentException",
  .classLink RL 15 "java/lang/IllegalStateException",
  .methodLink RL 7 yX6_lamp,
  .instanceMethod yX6_lamp,
  .selects RX6 yX6_lamp yX6_lamp,
  .code yX6_lamp cX6_lamp 9 (some .int),
  .methodLink RL 17 yX6_feed,
  .instanceMethod yX6_feed,
  .selects RX6 yX6_feed yX6_feed,
  .code yX6_feed cX6_feed 6 (some .int),
  .methodLink RL 21 yX6_end,
  .instanceMethod yX6_end,
  .selects RX6 yX6_end yX6_end,
  .code yX6_end cX6_end 2 none,
  .classLink RL 29 "java/lang/IndexOutOfBoundsException"]
def WA15 : List Cond := [.methodLink RL 25 yX6_answer,
  .instanceMethod yX6_answer,
  .selects RX6 yX6_answer yX6_answer,
  .code yX6_answer cX6_answer 2 (some .int),
  .methodLink RL 31 yX6_ask,
  .instanceMethod yX6_ask,
  .selects RX6 yX6_ask yX6_ask,
  .code yX6_ask cX6_ask 9 (some .int),
  .methodLink RL 34 yX6_spoil,
  .instanceMethod yX6_spoil,
  .selects RX6 yX6_spoil yX6_spoil,
  .code yX6_spoil cX6_spoil 3 none,
  .methodLink RL 38 yX6_about,
  .instanceMethod yX6_about,
  .selects RX6 yX6_about yX6_about,
  .code yX6_about cX6_about 4 (some .int),
  .methodLink RL 42 yX6_rest,
  .instanceMethod yX6_rest,
  .selects RX6 yX6_rest yX6_rest,
  .code yX6_rest cX6_rest 2 (some .long),
  .methodLink RL 46 yX6_level,
  .instanceMethod yX6_level,
  .selects RX6 yX6_level yX6_level,
  .code yX6_level cX6_level 4 (some .int),
  .methodLink RL 49 yX6_label,
  .instanceMethod yX6_label,
  .selects RX6 yX6_label yX6_label,
  .code yX6_label cX6_label 4 (some .int),
  .methodLink RL 52 yX6_silence,
  .instanceMethod yX6_silence,
  .selects RX6 yX6_silence yX6_silence,
  .code yX6_silence cX6_silence 5 (some .int),
  .methodLink RL 56 yX6_step,
  .instanceMethod yX6_step,
  .selects RX6 yX6_step yX6_step,
  .code yX6_step cX6_step 3 (some .int),
  .methodLink RL 59 yX6_id,
  .instanceMethod yX6_id,
  .selects RX6 yX6_id yX6_id,
  .code yX6_id cX6_id 2 (some .long)]
def WA16 : List Cond := [.methodLink RL 62 yX6_branch,
  .instanceMethod yX6_branch,
  .selects RX6 yX6_branch yX6_branch,
  .code yX6_branch cX6_branch 2 (some .long),
  .classLink RL 8 RX6,
  .instantiable RX6 13,
  .classLink RL 66 RX7,
  .instantiable RX7 39,
  .constantLong RL 69 (4294967295),
  .methodLink RL 65 yX6_init,
  .instanceMethod yX6_init,
  .code yX6_init cX6_init 1 none,
  .methodLink RL 68 yX7_init,
  .instanceMethod yX7_init,
  .code yX7_init cX7_init 1 none,
  .methodLink RL 71 yL_lamp,
  .static yL_lamp,
  .initialized RL,
  .methodLink RL 76 yX7_lamp,
  .instanceMethod yX7_lamp,
  .selects RX7 yX7_lamp yX7_lamp,
  .code yX7_lamp cX7_lamp 9 (some .int),
  .methodLink RL 77 yX7_thrown,
  .instanceMethod yX7_thrown,
  .selects RX7 yX7_thrown yX7_thrown,
  .code yX7_thrown cX7_thrown 1 (some .int),
  .methodLink RL 81 yL_feed,
  .static yL_feed,
  .methodLink RL 84 yX7_feed,
  .instanceMethod yX7_feed,
  .selects RX7 yX7_feed yX7_feed,
  .code yX7_feed cX7_feed 8 (some .int),
  .methodLink RL 85 yL_end,
  .static yL_end,
  .methodLink RL 88 yX7_end,
  .instanceMethod yX7_end,
  .selects RX7 yX7_end yX7_end,
  .code yX7_end cX7_end 2 none,
  .methodLink RL 89 yX6_send,
  .instanceMethod yX6_send]
def WA17 : List Cond := [.selects RX6 yX6_send yX6_send,
  .code yX6_send cX6_send 1 (some .int),
  .methodLink RL 92 yX7_send,
  .instanceMethod yX7_send,
  .selects RX7 yX7_send yX7_send,
  .code yX7_send cX7_send 2 (some .int),
  .methodLink RL 93 yL_answer,
  .static yL_answer,
  .methodLink RL 96 yX7_answer,
  .instanceMethod yX7_answer,
  .selects RX7 yX7_answer yX7_answer,
  .code yX7_answer cX7_answer 2 (some .int),
  .methodLink RL 97 yL_ask,
  .static yL_ask,
  .methodLink RL 99 yX7_ask,
  .instanceMethod yX7_ask,
  .selects RX7 yX7_ask yX7_ask,
  .code yX7_ask cX7_ask 8 (some .int),
  .methodLink RL 100 yL_spoil,
  .static yL_spoil,
  .methodLink RL 103 yX7_spoil,
  .instanceMethod yX7_spoil,
  .selects RX7 yX7_spoil yX7_spoil,
  .code yX7_spoil cX7_spoil 4 none,
  .methodLink RL 104 yX6_frames,
  .instanceMethod yX6_frames,
  .selects RX6 yX6_frames yX6_frames,
  .code yX6_frames cX6_frames 1 (some .int),
  .methodLink RL 107 yX7_frames,
  .instanceMethod yX7_frames,
  .selects RX7 yX7_frames yX7_frames,
  .code yX7_frames cX7_frames 1 (some .int),
  .methodLink RL 108 yL_about,
  .static yL_about,
  .methodLink RL 111 yX7_about,
  .instanceMethod yX7_about,
  .selects RX7 yX7_about yX7_about,
  .code yX7_about cX7_about 3 (some .int),
  .methodLink RL 112 yL_rest,
  .static yL_rest]
def WA18 : List Cond := [.methodLink RL 114 yX7_rest,
  .instanceMethod yX7_rest,
  .selects RX7 yX7_rest yX7_rest,
  .code yX7_rest cX7_rest 2 (some .long),
  .methodLink RL 115 yL_level,
  .static yL_level,
  .methodLink RL 117 yX7_level,
  .instanceMethod yX7_level,
  .selects RX7 yX7_level yX7_level,
  .code yX7_level cX7_level 3 (some .int),
  .methodLink RL 118 yL_label,
  .static yL_label,
  .methodLink RL 120 yX7_label,
  .instanceMethod yX7_label,
  .selects RX7 yX7_label yX7_label,
  .code yX7_label cX7_label 3 (some .int),
  .methodLink RL 121 yL_silence,
  .static yL_silence,
  .methodLink RL 124 yX7_silence,
  .instanceMethod yX7_silence,
  .selects RX7 yX7_silence yX7_silence,
  .code yX7_silence cX7_silence 4 (some .int),
  .methodLink RL 125 yX6_search,
  .instanceMethod yX6_search,
  .selects RX6 yX6_search yX6_search,
  .code yX6_search cX6_search 1 (some .int),
  .methodLink RL 128 yX7_search,
  .instanceMethod yX7_search,
  .selects RX7 yX7_search yX7_search,
  .code yX7_search cX7_search 1 (some .int),
  .methodLink RL 129 yL_step,
  .static yL_step,
  .methodLink RL 131 yX7_step,
  .instanceMethod yX7_step,
  .selects RX7 yX7_step yX7_step,
  .code yX7_step cX7_step 3 (some .int),
  .methodLink RL 132 yX6_found,
  .instanceMethod yX6_found,
  .selects RX6 yX6_found yX6_found,
  .code yX6_found cX6_found 1 (some .int)]
def WA19 : List Cond := [.methodLink RL 135 yX7_found,
  .instanceMethod yX7_found,
  .selects RX7 yX7_found yX7_found,
  .code yX7_found cX7_found 1 (some .int),
  .methodLink RL 136 yL_id,
  .static yL_id,
  .methodLink RL 138 yX7_id,
  .instanceMethod yX7_id,
  .selects RX7 yX7_id yX7_id,
  .code yX7_id cX7_id 2 (some .long),
  .methodLink RL 139 yL_branch,
  .static yL_branch,
  .methodLink RL 141 yX7_branch,
  .instanceMethod yX7_branch,
  .selects RX7 yX7_branch yX7_branch,
  .code yX7_branch cX7_branch 2 (some .long),
  .code yJ9_min_7cf53 cJ9_min_7cf53 2 (some .int)]
def vxA1 : List Cond := (vx_atS RX6 66 "java/lang/IllegalArgumentException" ["java/lang/RuntimeException", "java/lang/Exception"]).filter goodWord
def vxA2 : List Cond := (vx_atS RX6 95 "java/lang/IllegalStateException" ["java/lang/RuntimeException", "java/lang/Exception"]).filter goodWord
def vxA3 : List Cond := (vx_atS RX6 125 "java/lang/IndexOutOfBoundsException" ["java/lang/RuntimeException", "java/lang/Exception"]).filter goodWord
def AL : List Cond := wsX10 ++ (wsX20 ++ (wsX30 ++ (wsX40 ++ (wsX50 ++ (wsX60 ++ (wsX70 ++ (WA0 ++ (WA1 ++ (WA2 ++ (WA3 ++ (WA4 ++ (WA5 ++ (WA6 ++ (WA7 ++ (WA8 ++ (WA9 ++ (WA10 ++ (WA11 ++ (WA12 ++ (WA13 ++ (WA14 ++ (WA15 ++ (WA16 ++ (WA17 ++ (WA18 ++ (WA19 ++ (vxA1 ++ (vxA2 ++ (vxA3)))))))))))))))))))))))))))))
theorem ia_X1 : ∀ w ∈ wsX10, w ∈ AL := fun w h => List.mem_append_left _ h
theorem ia_X2 : ∀ w ∈ wsX20, w ∈ AL := fun w h => List.mem_append_right _ (List.mem_append_left _ h)
theorem ia_X3 : ∀ w ∈ wsX30, w ∈ AL := fun w h => List.mem_append_right _ (List.mem_append_right _ (List.mem_append_left _ h))
theorem ia_X4 : ∀ w ∈ wsX40, w ∈ AL := fun w h => List.mem_append_right _ (List.mem_append_right _ (List.mem_append_right _ (List.mem_append_left _ h)))
theorem ia_X5 : ∀ w ∈ wsX50, w ∈ AL := fun w h => List.mem_append_right _ (List.mem_append_right _ (List.mem_append_right _ (List.mem_append_right _ (List.mem_append_left _ h))))
theorem ia_X6 : ∀ w ∈ wsX60, w ∈ AL := fun w h => List.mem_append_right _ (List.mem_append_right _ (List.mem_append_right _ (List.mem_append_right _ (List.mem_append_right _ (List.mem_append_left _ h)))))
theorem ia_X7 : ∀ w ∈ wsX70, w ∈ AL := fun w h => List.mem_append_right _ (List.mem_append_right _ (List.mem_append_right _ (List.mem_append_right _ (List.mem_append_right _ (List.mem_append_right _ (List.mem_append_left _ h))))))
theorem ia_A0 : ∀ w ∈ WA0, w ∈ AL := fun w h => List.mem_append_right _ (List.mem_append_right _ (List.mem_append_right _ (List.mem_append_right _ (List.mem_append_right _ (List.mem_append_right _ (List.mem_append_right _ (List.mem_append_left _ h)))))))
theorem ia_A1 : ∀ w ∈ WA1, w ∈ AL := fun w h => List.mem_append_right _ (List.mem_append_right _ (List.mem_append_right _ (List.mem_append_right _ (List.mem_append_right _ (List.mem_append_right _ (List.mem_append_right _ (List.mem_append_right _ (List.mem_append_left _ h))))))))
theorem ia_A2 : ∀ w ∈ WA2, w ∈ AL := fun w h => List.mem_append_right _ (List.mem_append_right _ (List.mem_append_right _ (List.mem_append_right _ (List.mem_append_right _ (List.mem_append_right _ (List.mem_append_right _ (List.mem_append_right _ (List.mem_append_right _ (List.mem_append_left _ h)))))))))
theorem ia_A3 : ∀ w ∈ WA3, w ∈ AL := fun w h => List.mem_append_right _ (List.mem_append_right _ (List.mem_append_right _ (List.mem_append_right _ (List.mem_append_right _ (List.mem_append_right _ (List.mem_append_right _ (List.mem_append_right _ (List.mem_append_right _ (List.mem_append_right _ (List.mem_append_left _ h))))))))))
theorem ia_A4 : ∀ w ∈ WA4, w ∈ AL := fun w h => List.mem_append_right _ (List.mem_append_right _ (List.mem_append_right _ (List.mem_append_right _ (List.mem_append_right _ (List.mem_append_right _ (List.mem_append_right _ (List.mem_append_right _ (List.mem_append_right _ (List.mem_append_right _ (List.mem_append_right _ (List.mem_append_left _ h)))))))))))
theorem ia_A5 : ∀ w ∈ WA5, w ∈ AL := fun w h => List.mem_append_right _ (List.mem_append_right _ (List.mem_append_right _ (List.mem_append_right _ (List.mem_append_right _ (List.mem_append_right _ (List.mem_append_right _ (List.mem_append_right _ (List.mem_append_right _ (List.mem_append_right _ (List.mem_append_right _ (List.mem_append_right _ (List.mem_append_left _ h))))))))))))
theorem ia_A6 : ∀ w ∈ WA6, w ∈ AL := fun w h => List.mem_append_right _ (List.mem_append_right _ (List.mem_append_right _ (List.mem_append_right _ (List.mem_append_right _ (List.mem_append_right _ (List.mem_append_right _ (List.mem_append_right _ (List.mem_append_right _ (List.mem_append_right _ (List.mem_append_right _ (List.mem_append_right _ (List.mem_append_right _ (List.mem_append_left _ h)))))))))))))
theorem ia_A7 : ∀ w ∈ WA7, w ∈ AL := fun w h => List.mem_append_right _ (List.mem_append_right _ (List.mem_append_right _ (List.mem_append_right _ (List.mem_append_right _ (List.mem_append_right _ (List.mem_append_right _ (List.mem_append_right _ (List.mem_append_right _ (List.mem_append_right _ (List.mem_append_right _ (List.mem_append_right _ (List.mem_append_right _ (List.mem_append_right _ (List.mem_append_left _ h))))))))))))))
theorem ia_A8 : ∀ w ∈ WA8, w ∈ AL := fun w h => List.mem_append_right _ (List.mem_append_right _ (List.mem_append_right _ (List.mem_append_right _ (List.mem_append_right _ (List.mem_append_right _ (List.mem_append_right _ (List.mem_append_right _ (List.mem_append_right _ (List.mem_append_right _ (List.mem_append_right _ (List.mem_append_right _ (List.mem_append_right _ (List.mem_append_right _ (List.mem_append_right _ (List.mem_append_left _ h)))))))))))))))
theorem ia_A9 : ∀ w ∈ WA9, w ∈ AL := fun w h => List.mem_append_right _ (List.mem_append_right _ (List.mem_append_right _ (List.mem_append_right _ (List.mem_append_right _ (List.mem_append_right _ (List.mem_append_right _ (List.mem_append_right _ (List.mem_append_right _ (List.mem_append_right _ (List.mem_append_right _ (List.mem_append_right _ (List.mem_append_right _ (List.mem_append_right _ (List.mem_append_right _ (List.mem_append_right _ (List.mem_append_left _ h))))))))))))))))
theorem ia_A10 : ∀ w ∈ WA10, w ∈ AL := fun w h => List.mem_append_right _ (List.mem_append_right _ (List.mem_append_right _ (List.mem_append_right _ (List.mem_append_right _ (List.mem_append_right _ (List.mem_append_right _ (List.mem_append_right _ (List.mem_append_right _ (List.mem_append_right _ (List.mem_append_right _ (List.mem_append_right _ (List.mem_append_right _ (List.mem_append_right _ (List.mem_append_right _ (List.mem_append_right _ (List.mem_append_right _ (List.mem_append_left _ h)))))))))))))))))
theorem ia_A11 : ∀ w ∈ WA11, w ∈ AL := fun w h => List.mem_append_right _ (List.mem_append_right _ (List.mem_append_right _ (List.mem_append_right _ (List.mem_append_right _ (List.mem_append_right _ (List.mem_append_right _ (List.mem_append_right _ (List.mem_append_right _ (List.mem_append_right _ (List.mem_append_right _ (List.mem_append_right _ (List.mem_append_right _ (List.mem_append_right _ (List.mem_append_right _ (List.mem_append_right _ (List.mem_append_right _ (List.mem_append_right _ (List.mem_append_left _ h))))))))))))))))))
theorem ia_A12 : ∀ w ∈ WA12, w ∈ AL := fun w h => List.mem_append_right _ (List.mem_append_right _ (List.mem_append_right _ (List.mem_append_right _ (List.mem_append_right _ (List.mem_append_right _ (List.mem_append_right _ (List.mem_append_right _ (List.mem_append_right _ (List.mem_append_right _ (List.mem_append_right _ (List.mem_append_right _ (List.mem_append_right _ (List.mem_append_right _ (List.mem_append_right _ (List.mem_append_right _ (List.mem_append_right _ (List.mem_append_right _ (List.mem_append_right _ (List.mem_append_left _ h)))))))))))))))))))
theorem ia_A13 : ∀ w ∈ WA13, w ∈ AL := fun w h => List.mem_append_right _ (List.mem_append_right _ (List.mem_append_right _ (List.mem_append_right _ (List.mem_append_right _ (List.mem_append_right _ (List.mem_append_right _ (List.mem_append_right _ (List.mem_append_right _ (List.mem_append_right _ (List.mem_append_right _ (List.mem_append_right _ (List.mem_append_right _ (List.mem_append_right _ (List.mem_append_right _ (List.mem_append_right _ (List.mem_append_right _ (List.mem_append_right _ (List.mem_append_right _ (List.mem_append_right _ (List.mem_append_left _ h))))))))))))))))))))
theorem ia_A14 : ∀ w ∈ WA14, w ∈ AL := fun w h => List.mem_append_right _ (List.mem_append_right _ (List.mem_append_right _ (List.mem_append_right _ (List.mem_append_right _ (List.mem_append_right _ (List.mem_append_right _ (List.mem_append_right _ (List.mem_append_right _ (List.mem_append_right _ (List.mem_append_right _ (List.mem_append_right _ (List.mem_append_right _ (List.mem_append_right _ (List.mem_append_right _ (List.mem_append_right _ (List.mem_append_right _ (List.mem_append_right _ (List.mem_append_right _ (List.mem_append_right _ (List.mem_append_right _ (List.mem_append_left _ h)))))))))))))))))))))
theorem ia_A15 : ∀ w ∈ WA15, w ∈ AL := fun w h => List.mem_append_right _ (List.mem_append_right _ (List.mem_append_right _ (List.mem_append_right _ (List.mem_append_right _ (List.mem_append_right _ (List.mem_append_right _ (List.mem_append_right _ (List.mem_append_right _ (List.mem_append_right _ (List.mem_append_right _ (List.mem_append_right _ (List.mem_append_right _ (List.mem_append_right _ (List.mem_append_right _ (List.mem_append_right _ (List.mem_append_right _ (List.mem_append_right _ (List.mem_append_right _ (List.mem_append_right _ (List.mem_append_right _ (List.mem_append_right _ (List.mem_append_left _ h))))))))))))))))))))))
theorem ia_A16 : ∀ w ∈ WA16, w ∈ AL := fun w h => List.mem_append_right _ (List.mem_append_right _ (List.mem_append_right _ (List.mem_append_right _ (List.mem_append_right _ (List.mem_append_right _ (List.mem_append_right _ (List.mem_append_right _ (List.mem_append_right _ (List.mem_append_right _ (List.mem_append_right _ (List.mem_append_right _ (List.mem_append_right _ (List.mem_append_right _ (List.mem_append_right _ (List.mem_append_right _ (List.mem_append_right _ (List.mem_append_right _ (List.mem_append_right _ (List.mem_append_right _ (List.mem_append_right _ (List.mem_append_right _ (List.mem_append_right _ (List.mem_append_left _ h)))))))))))))))))))))))
theorem ia_A17 : ∀ w ∈ WA17, w ∈ AL := fun w h => List.mem_append_right _ (List.mem_append_right _ (List.mem_append_right _ (List.mem_append_right _ (List.mem_append_right _ (List.mem_append_right _ (List.mem_append_right _ (List.mem_append_right _ (List.mem_append_right _ (List.mem_append_right _ (List.mem_append_right _ (List.mem_append_right _ (List.mem_append_right _ (List.mem_append_right _ (List.mem_append_right _ (List.mem_append_right _ (List.mem_append_right _ (List.mem_append_right _ (List.mem_append_right _ (List.mem_append_right _ (List.mem_append_right _ (List.mem_append_right _ (List.mem_append_right _ (List.mem_append_right _ (List.mem_append_left _ h))))))))))))))))))))))))
theorem ia_A18 : ∀ w ∈ WA18, w ∈ AL := fun w h => List.mem_append_right _ (List.mem_append_right _ (List.mem_append_right _ (List.mem_append_right _ (List.mem_append_right _ (List.mem_append_right _ (List.mem_append_right _ (List.mem_append_right _ (List.mem_append_right _ (List.mem_append_right _ (List.mem_append_right _ (List.mem_append_right _ (List.mem_append_right _ (List.mem_append_right _ (List.mem_append_right _ (List.mem_append_right _ (List.mem_append_right _ (List.mem_append_right _ (List.mem_append_right _ (List.mem_append_right _ (List.mem_append_right _ (List.mem_append_right _ (List.mem_append_right _ (List.mem_append_right _ (List.mem_append_right _ (List.mem_append_left _ h)))))))))))))))))))))))))
theorem ia_A19 : ∀ w ∈ WA19, w ∈ AL := fun w h => List.mem_append_right _ (List.mem_append_right _ (List.mem_append_right _ (List.mem_append_right _ (List.mem_append_right _ (List.mem_append_right _ (List.mem_append_right _ (List.mem_append_right _ (List.mem_append_right _ (List.mem_append_right _ (List.mem_append_right _ (List.mem_append_right _ (List.mem_append_right _ (List.mem_append_right _ (List.mem_append_right _ (List.mem_append_right _ (List.mem_append_right _ (List.mem_append_right _ (List.mem_append_right _ (List.mem_append_right _ (List.mem_append_right _ (List.mem_append_right _ (List.mem_append_right _ (List.mem_append_right _ (List.mem_append_right _ (List.mem_append_right _ (List.mem_append_left _ h))))))))))))))))))))))))))
theorem ia_vxA1 : ∀ w ∈ vxA1, w ∈ AL := fun w h => List.mem_append_right _ (List.mem_append_right _ (List.mem_append_right _ (List.mem_append_right _ (List.mem_append_right _ (List.mem_append_right _ (List.mem_append_right _ (List.mem_append_right _ (List.mem_append_right _ (List.mem_append_right _ (List.mem_append_right _ (List.mem_append_right _ (List.mem_append_right _ (List.mem_append_right _ (List.mem_append_right _ (List.mem_append_right _ (List.mem_append_right _ (List.mem_append_right _ (List.mem_append_right _ (List.mem_append_right _ (List.mem_append_right _ (List.mem_append_right _ (List.mem_append_right _ (List.mem_append_right _ (List.mem_append_right _ (List.mem_append_right _ (List.mem_append_right _ (List.mem_append_left _ h)))))))))))))))))))))))))))
theorem ia_vxA2 : ∀ w ∈ vxA2, w ∈ AL := fun w h => List.mem_append_right _ (List.mem_append_right _ (List.mem_append_right _ (List.mem_append_right _ (List.mem_append_right _ (List.mem_append_right _ (List.mem_append_right _ (List.mem_append_right _ (List.mem_append_right _ (List.mem_append_right _ (List.mem_append_right _ (List.mem_append_right _ (List.mem_append_right _ (List.mem_append_right _ (List.mem_append_right _ (List.mem_append_right _ (List.mem_append_right _ (List.mem_append_right _ (List.mem_append_right _ (List.mem_append_right _ (List.mem_append_right _ (List.mem_append_right _ (List.mem_append_right _ (List.mem_append_right _ (List.mem_append_right _ (List.mem_append_right _ (List.mem_append_right _ (List.mem_append_right _ (List.mem_append_left _ h))))))))))))))))))))))))))))
theorem ia_vxA3 : ∀ w ∈ vxA3, w ∈ AL := fun w h => List.mem_append_right _ (List.mem_append_right _ (List.mem_append_right _ (List.mem_append_right _ (List.mem_append_right _ (List.mem_append_right _ (List.mem_append_right _ (List.mem_append_right _ (List.mem_append_right _ (List.mem_append_right _ (List.mem_append_right _ (List.mem_append_right _ (List.mem_append_right _ (List.mem_append_right _ (List.mem_append_right _ (List.mem_append_right _ (List.mem_append_right _ (List.mem_append_right _ (List.mem_append_right _ (List.mem_append_right _ (List.mem_append_right _ (List.mem_append_right _ (List.mem_append_right _ (List.mem_append_right _ (List.mem_append_right _ (List.mem_append_right _ (List.mem_append_right _ (List.mem_append_right _ (List.mem_append_right _ (h)))))))))))))))))))))))))))))
theorem ga_X1 : ∀ w ∈ wsX10, goodWord w = true := fun w h => List.all_eq_true.mp (show List.all wsX10 goodWord = true by decide +kernel) w h
theorem ga_X2 : ∀ w ∈ wsX20, goodWord w = true := fun w h => List.all_eq_true.mp (show List.all wsX20 goodWord = true by decide +kernel) w h
theorem ga_X3 : ∀ w ∈ wsX30, goodWord w = true := fun w h => List.all_eq_true.mp (show List.all wsX30 goodWord = true by decide +kernel) w h
theorem ga_X4 : ∀ w ∈ wsX40, goodWord w = true := fun w h => List.all_eq_true.mp (show List.all wsX40 goodWord = true by decide +kernel) w h
theorem ga_X5 : ∀ w ∈ wsX50, goodWord w = true := fun w h => List.all_eq_true.mp (show List.all wsX50 goodWord = true by decide +kernel) w h
theorem ga_X6 : ∀ w ∈ wsX60, goodWord w = true := fun w h => List.all_eq_true.mp (show List.all wsX60 goodWord = true by decide +kernel) w h
theorem ga_X7 : ∀ w ∈ wsX70, goodWord w = true := fun w h => List.all_eq_true.mp (show List.all wsX70 goodWord = true by decide +kernel) w h
theorem ga_A0 : ∀ w ∈ WA0, goodWord w = true := fun w h => List.all_eq_true.mp (show List.all WA0 goodWord = true by decide +kernel) w h
theorem ga_A1 : ∀ w ∈ WA1, goodWord w = true := fun w h => List.all_eq_true.mp (show List.all WA1 goodWord = true by decide +kernel) w h
theorem ga_A2 : ∀ w ∈ WA2, goodWord w = true := fun w h => List.all_eq_true.mp (show List.all WA2 goodWord = true by decide +kernel) w h
theorem ga_A3 : ∀ w ∈ WA3, goodWord w = true := fun w h => List.all_eq_true.mp (show List.all WA3 goodWord = true by decide +kernel) w h
theorem ga_A4 : ∀ w ∈ WA4, goodWord w = true := fun w h => List.all_eq_true.mp (show List.all WA4 goodWord = true by decide +kernel) w h
theorem ga_A5 : ∀ w ∈ WA5, goodWord w = true := fun w h => List.all_eq_true.mp (show List.all WA5 goodWord = true by decide +kernel) w h
theorem ga_A6 : ∀ w ∈ WA6, goodWord w = true := fun w h => List.all_eq_true.mp (show List.all WA6 goodWord = true by decide +kernel) w h
theorem ga_A7 : ∀ w ∈ WA7, goodWord w = true := fun w h => List.all_eq_true.mp (show List.all WA7 goodWord = true by decide +kernel) w h
theorem ga_A8 : ∀ w ∈ WA8, goodWord w = true := fun w h => List.all_eq_true.mp (show List.all WA8 goodWord = true by decide +kernel) w h
theorem ga_A9 : ∀ w ∈ WA9, goodWord w = true := fun w h => List.all_eq_true.mp (show List.all WA9 goodWord = true by decide +kernel) w h
theorem ga_A10 : ∀ w ∈ WA10, goodWord w = true := fun w h => List.all_eq_true.mp (show List.all WA10 goodWord = true by decide +kernel) w h
theorem ga_A11 : ∀ w ∈ WA11, goodWord w = true := fun w h => List.all_eq_true.mp (show List.all WA11 goodWord = true by decide +kernel) w h
theorem ga_A12 : ∀ w ∈ WA12, goodWord w = true := fun w h => List.all_eq_true.mp (show List.all WA12 goodWord = true by decide +kernel) w h
theorem ga_A13 : ∀ w ∈ WA13, goodWord w = true := fun w h => List.all_eq_true.mp (show List.all WA13 goodWord = true by decide +kernel) w h
theorem ga_A14 : ∀ w ∈ WA14, goodWord w = true := fun w h => List.all_eq_true.mp (show List.all WA14 goodWord = true by decide +kernel) w h
theorem ga_A15 : ∀ w ∈ WA15, goodWord w = true := fun w h => List.all_eq_true.mp (show List.all WA15 goodWord = true by decide +kernel) w h
theorem ga_A16 : ∀ w ∈ WA16, goodWord w = true := fun w h => List.all_eq_true.mp (show List.all WA16 goodWord = true by decide +kernel) w h
theorem ga_A17 : ∀ w ∈ WA17, goodWord w = true := fun w h => List.all_eq_true.mp (show List.all WA17 goodWord = true by decide +kernel) w h
theorem ga_A18 : ∀ w ∈ WA18, goodWord w = true := fun w h => List.all_eq_true.mp (show List.all WA18 goodWord = true by decide +kernel) w h
theorem ga_A19 : ∀ w ∈ WA19, goodWord w = true := fun w h => List.all_eq_true.mp (show List.all WA19 goodWord = true by decide +kernel) w h
theorem ga_vxA1 : ∀ w ∈ vxA1, goodWord w = true := fun w h => (List.mem_filter.mp h).2
theorem ga_vxA2 : ∀ w ∈ vxA2, goodWord w = true := fun w h => (List.mem_filter.mp h).2
theorem ga_vxA3 : ∀ w ∈ vxA3, goodWord w = true := fun w h => (List.mem_filter.mp h).2
theorem ga_AL : ∀ w ∈ AL, goodWord w = true := List.forall_mem_append.mpr ⟨ga_X1, List.forall_mem_append.mpr ⟨ga_X2, List.forall_mem_append.mpr ⟨ga_X3, List.forall_mem_append.mpr ⟨ga_X4, List.forall_mem_append.mpr ⟨ga_X5, List.forall_mem_append.mpr ⟨ga_X6, List.forall_mem_append.mpr ⟨ga_X7, List.forall_mem_append.mpr ⟨ga_A0, List.forall_mem_append.mpr ⟨ga_A1, List.forall_mem_append.mpr ⟨ga_A2, List.forall_mem_append.mpr ⟨ga_A3, List.forall_mem_append.mpr ⟨ga_A4, List.forall_mem_append.mpr ⟨ga_A5, List.forall_mem_append.mpr ⟨ga_A6, List.forall_mem_append.mpr ⟨ga_A7, List.forall_mem_append.mpr ⟨ga_A8, List.forall_mem_append.mpr ⟨ga_A9, List.forall_mem_append.mpr ⟨ga_A10, List.forall_mem_append.mpr ⟨ga_A11, List.forall_mem_append.mpr ⟨ga_A12, List.forall_mem_append.mpr ⟨ga_A13, List.forall_mem_append.mpr ⟨ga_A14, List.forall_mem_append.mpr ⟨ga_A15, List.forall_mem_append.mpr ⟨ga_A16, List.forall_mem_append.mpr ⟨ga_A17, List.forall_mem_append.mpr ⟨ga_A18, List.forall_mem_append.mpr ⟨ga_A19, List.forall_mem_append.mpr ⟨ga_vxA1, List.forall_mem_append.mpr ⟨ga_vxA2, ga_vxA3⟩⟩⟩⟩⟩⟩⟩⟩⟩⟩⟩⟩⟩⟩⟩⟩⟩⟩⟩⟩⟩⟩⟩⟩⟩⟩⟩⟩⟩
theorem gz {c : Cond} (hc : c ∈ AL) : GoodIn AL (c :: AL) := fun w h => (List.mem_cons.mp h).elim (fun e => by rw [e]; exact ⟨hc, good_of_word (ga_AL _ hc)⟩) (fun h => ⟨h, good_of_word (ga_AL _ h)⟩)
theorem gV {own C : String} {idx : Nat} {y : MethodName} {ws : List Cond} (h1 : Cond.methodLink own idx y ∈ AL) (h2 : Cond.instanceMethod y ∈ AL) (h3 : Cond.selects C y y ∈ AL) (h4 : Cond.initialized C ∈ AL) (hz : GoodIn AL ws) : GoodIn AL (wsV own idx C y ws) := goodIn_app (List.forall_mem_cons.mpr ⟨⟨h1, good_of_word (ga_AL _ h1)⟩, List.forall_mem_cons.mpr ⟨⟨h2, good_of_word (ga_AL _ h2)⟩, List.forall_mem_cons.mpr ⟨⟨h3, good_of_word (ga_AL _ h3)⟩, List.forall_mem_cons.mpr ⟨⟨h4, good_of_word (ga_AL _ h4)⟩, fun _ h => absurd h List.not_mem_nil⟩⟩⟩⟩) hz
theorem gS {own : String} {idx : Nat} {y : MethodName} {ws : List Cond} (h1 : Cond.methodLink own idx y ∈ AL) (h2 : Cond.static y ∈ AL) (h3 : Cond.initialized y.cls ∈ AL) (hz : GoodIn AL ws) : GoodIn AL (va_wsS own idx y ws) := goodIn_app (List.forall_mem_cons.mpr ⟨⟨h1, good_of_word (ga_AL _ h1)⟩, List.forall_mem_cons.mpr ⟨⟨h2, good_of_word (ga_AL _ h2)⟩, List.forall_mem_cons.mpr ⟨⟨h3, good_of_word (ga_AL _ h3)⟩, fun _ h => absurd h List.not_mem_nil⟩⟩⟩) hz
theorem aw_0 : Cond.fieldLink RX3 13 "LampLine$Row" "size" "I" ∈ AL := ia_A0 _ (List.mem_of_getElem? (i := 0) rfl)
theorem aw_1 : Cond.fieldLink RX3 7 "LampLine$Row" "cells" "[I" ∈ AL := ia_A0 _ (List.mem_of_getElem? (i := 1) rfl)
theorem aw_2 : Cond.constant RX3 21 (65535) ∈ AL := ia_A0 _ (List.mem_of_getElem? (i := 2) rfl)
theorem aw_3 : Cond.methodLink RX0 9 yX3_cut ∈ AL := ia_A0 _ (List.mem_of_getElem? (i := 3) rfl)
theorem aw_4 : Cond.instanceMethod yX3_cut ∈ AL := ia_A0 _ (List.mem_of_getElem? (i := 4) rfl)
theorem aw_5 : Cond.selects RX3 yX3_cut yX3_cut ∈ AL := ia_A0 _ (List.mem_of_getElem? (i := 5) rfl)
theorem aw_6 : Cond.initialized RX3 ∈ AL := ia_A0 _ (List.mem_of_getElem? (i := 6) rfl)
theorem aw_7 : Cond.code yX3_cut cX3_cut 2 none ∈ AL := ia_A0 _ (List.mem_of_getElem? (i := 7) rfl)
theorem aw_8 : Cond.methodLink RX0 17 yX3_put ∈ AL := ia_A0 _ (List.mem_of_getElem? (i := 8) rfl)
theorem aw_9 : Cond.instanceMethod yX3_put ∈ AL := ia_A0 _ (List.mem_of_getElem? (i := 9) rfl)
theorem aw_10 : Cond.selects RX3 yX3_put yX3_put ∈ AL := ia_A0 _ (List.mem_of_getElem? (i := 10) rfl)
theorem aw_11 : Cond.code yX3_put cX3_put 2 none ∈ AL := ia_A0 _ (List.mem_of_getElem? (i := 11) rfl)
theorem aw_12 : Cond.methodLink RX0 20 yX3_sum ∈ AL := ia_A0 _ (List.mem_of_getElem? (i := 12) rfl)
theorem aw_13 : Cond.instanceMethod yX3_sum ∈ AL := ia_A0 _ (List.mem_of_getElem? (i := 13) rfl)
theorem aw_14 : Cond.selects RX3 yX3_sum yX3_sum ∈ AL := ia_A0 _ (List.mem_of_getElem? (i := 14) rfl)
theorem aw_15 : Cond.code yX3_sum cX3_sum 5 (some .int) ∈ AL := ia_A0 _ (List.mem_of_getElem? (i := 15) rfl)
theorem aw_16 : Cond.constantLong RX0 28 (-1) ∈ AL := ia_A0 _ (List.mem_of_getElem? (i := 16) rfl)
theorem aw_17 : Cond.constantLong RX0 34 (65535) ∈ AL := ia_A0 _ (List.mem_of_getElem? (i := 17) rfl)
theorem aw_18 : Cond.methodLink RX0 24 yX3_size ∈ AL := ia_A0 _ (List.mem_of_getElem? (i := 18) rfl)
theorem aw_19 : Cond.instanceMethod yX3_size ∈ AL := ia_A0 _ (List.mem_of_getElem? (i := 19) rfl)
theorem aw_20 : Cond.selects RX3 yX3_size yX3_size ∈ AL := ia_A0 _ (List.mem_of_getElem? (i := 20) rfl)
theorem aw_21 : Cond.code yX3_size cX3_size 1 (some .int) ∈ AL := ia_A0 _ (List.mem_of_getElem? (i := 21) rfl)
theorem aw_22 : Cond.methodLink RX0 30 yX3_at ∈ AL := ia_A0 _ (List.mem_of_getElem? (i := 22) rfl)
theorem aw_23 : Cond.instanceMethod yX3_at ∈ AL := ia_A0 _ (List.mem_of_getElem? (i := 23) rfl)
theorem aw_24 : Cond.selects RX3 yX3_at yX3_at ∈ AL := ia_A0 _ (List.mem_of_getElem? (i := 24) rfl)
theorem aw_25 : Cond.code yX3_at cX3_at 2 (some .int) ∈ AL := ia_A0 _ (List.mem_of_getElem? (i := 25) rfl)
theorem aw_26 : Cond.methodLink RX3 1 objectInit ∈ AL := ia_A0 _ (List.mem_of_getElem? (i := 26) rfl)
theorem aw_27 : Cond.instanceMethod objectInit ∈ AL := ia_A0 _ (List.mem_of_getElem? (i := 27) rfl)
theorem aw_28 : Cond.code objectInit ⟨#[0xb1]⟩ 1 none ∈ AL := ia_A0 _ (List.mem_of_getElem? (i := 28) rfl)
theorem aw_29 : Cond.arrayClass .int ∈ AL := ia_A0 _ (List.mem_of_getElem? (i := 29) rfl)
theorem aw_30 : Cond.methodLink RX1 3 objectInit ∈ AL := ia_A0 _ (List.mem_of_getElem? (i := 30) rfl)
theorem aw_31 : Cond.fieldLink RX1 9 "LampLine$Lamp" "levels" "[I" ∈ AL := ia_A0 _ (List.mem_of_getElem? (i := 31) rfl)
theorem aw_32 : Cond.classLink RX1 15 RX3 ∈ AL := ia_A0 _ (List.mem_of_getElem? (i := 32) rfl)
theorem aw_33 : Cond.instantiable RX3 2 ∈ AL := ia_A0 _ (List.mem_of_getElem? (i := 33) rfl)
theorem aw_34 : Cond.fieldLink RX1 20 "LampLine$Lamp" "text" "LLampLine$Row;" ∈ AL := ia_A0 _ (List.mem_of_getElem? (i := 34) rfl)
theorem aw_35 : Cond.fieldLink RX1 24 "LampLine$Lamp" "laterTexts" "[LLampLine$Row;" ∈ AL := ia_A0 _ (List.mem_of_getElem? (i := 35) rfl)
theorem aw_36 : Cond.arrayClass .boolean ∈ AL := ia_A0 _ (List.mem_of_getElem? (i := 36) rfl)
theorem aw_37 : Cond.fieldLink RX1 28 "LampLine$Lamp" "isLater" "[Z" ∈ AL := ia_A0 _ (List.mem_of_getElem? (i := 37) rfl)
theorem aw_38 : Cond.fieldLink RX1 32 "LampLine$Lamp" "mode" "I" ∈ AL := ia_A0 _ (List.mem_of_getElem? (i := 38) rfl)
theorem aw_39 : Cond.fieldLink RX1 36 "LampLine$Lamp" "id" "J" ∈ AL := ia_A0 _ (List.mem_of_getElem? (i := 39) rfl)
theorem aw_40 : Cond.fieldLink RX1 40 "LampLine$Lamp" "width" "I" ∈ AL := ia_A1 _ (List.mem_of_getElem? (i := 0) rfl)
theorem aw_41 : Cond.fieldLink RX1 43 "LampLine$Lamp" "modes" "I" ∈ AL := ia_A1 _ (List.mem_of_getElem? (i := 1) rfl)
theorem aw_42 : Cond.fieldLink RX1 46 "LampLine$Lamp" "address" "I" ∈ AL := ia_A1 _ (List.mem_of_getElem? (i := 2) rfl)
theorem aw_43 : Cond.methodLink RX1 17 yX3_init ∈ AL := ia_A1 _ (List.mem_of_getElem? (i := 3) rfl)
theorem aw_44 : Cond.instanceMethod yX3_init ∈ AL := ia_A1 _ (List.mem_of_getElem? (i := 4) rfl)
theorem aw_45 : Cond.code yX3_init cX3_init 2 none ∈ AL := ia_A1 _ (List.mem_of_getElem? (i := 5) rfl)
theorem aw_46 : Cond.fieldLink RX1 49 "LampLine$Lamp" "litAt" "I" ∈ AL := ia_A1 _ (List.mem_of_getElem? (i := 6) rfl)
theorem aw_47 : Cond.fieldLink RX1 60 "LampLine$Lamp" "silent" "Z" ∈ AL := ia_A1 _ (List.mem_of_getElem? (i := 7) rfl)
theorem aw_48 : Cond.fieldLink RX1 68 "LampLine$Lamp" "shows" "Z" ∈ AL := ia_A1 _ (List.mem_of_getElem? (i := 8) rfl)
theorem aw_49 : Cond.fieldLink RX1 75 "LampLine$Lamp" "waiting" "I" ∈ AL := ia_A1 _ (List.mem_of_getElem? (i := 9) rfl)
theorem aw_50 : Cond.fieldLink RX1 81 "LampLine$Lamp" "orders" "I" ∈ AL := ia_A1 _ (List.mem_of_getElem? (i := 10) rfl)
theorem aw_51 : Cond.static yX6_makerOf ∈ AL := ia_A1 _ (List.mem_of_getElem? (i := 11) rfl)
theorem aw_52 : Cond.initialized RX6 ∈ AL := ia_A1 _ (List.mem_of_getElem? (i := 12) rfl)
theorem aw_53 : Cond.code yX6_makerOf cX6_makerOf 2 (some .int) ∈ AL := ia_A1 _ (List.mem_of_getElem? (i := 13) rfl)
theorem aw_54 : Cond.methodLink RX1 56 yX1_footprint ∈ AL := ia_A1 _ (List.mem_of_getElem? (i := 14) rfl)
theorem aw_55 : Cond.instanceMethod yX1_footprint ∈ AL := ia_A1 _ (List.mem_of_getElem? (i := 15) rfl)
theorem aw_56 : Cond.selects RX1 yX1_footprint yX1_footprint ∈ AL := ia_A1 _ (List.mem_of_getElem? (i := 16) rfl)
theorem aw_57 : Cond.initialized RX1 ∈ AL := ia_A1 _ (List.mem_of_getElem? (i := 17) rfl)
theorem aw_58 : Cond.code yX1_footprint cX1_footprint 1 (some .int) ∈ AL := ia_A1 _ (List.mem_of_getElem? (i := 18) rfl)
theorem aw_59 : Cond.static yX6_flag ∈ AL := ia_A1 _ (List.mem_of_getElem? (i := 19) rfl)
theorem aw_60 : Cond.code yX6_flag cX6_flag 1 (some .int) ∈ AL := ia_A1 _ (List.mem_of_getElem? (i := 20) rfl)
theorem aw_61 : Cond.methodLink RX1 71 yX1_isDark ∈ AL := ia_A1 _ (List.mem_of_getElem? (i := 21) rfl)
theorem aw_62 : Cond.instanceMethod yX1_isDark ∈ AL := ia_A1 _ (List.mem_of_getElem? (i := 22) rfl)
theorem aw_63 : Cond.selects RX1 yX1_isDark yX1_isDark ∈ AL := ia_A1 _ (List.mem_of_getElem? (i := 23) rfl)
theorem aw_64 : Cond.code yX1_isDark cX1_isDark 2 (some .boolean) ∈ AL := ia_A1 _ (List.mem_of_getElem? (i := 24) rfl)
theorem aw_65 : Cond.methodLink RX1 78 yX3_size ∈ AL := ia_A1 _ (List.mem_of_getElem? (i := 25) rfl)
theorem aw_66 : Cond.fieldLink RX1 88 "LampLine$Lamp" "onTheWay" "I" ∈ AL := ia_A1 _ (List.mem_of_getElem? (i := 26) rfl)
theorem aw_67 : Cond.methodLink RX1 84 yX3_copyFrom ∈ AL := ia_A1 _ (List.mem_of_getElem? (i := 27) rfl)
theorem aw_68 : Cond.instanceMethod yX3_copyFrom ∈ AL := ia_A1 _ (List.mem_of_getElem? (i := 28) rfl)
theorem aw_69 : Cond.selects RX3 yX3_copyFrom yX3_copyFrom ∈ AL := ia_A1 _ (List.mem_of_getElem? (i := 29) rfl)
theorem aw_70 : Cond.code yX3_copyFrom cX3_copyFrom 3 none ∈ AL := ia_A1 _ (List.mem_of_getElem? (i := 30) rfl)
theorem aw_71 : Cond.methodLink RX1 91 Lib.Math.min.name ∈ AL := ia_A1 _ (List.mem_of_getElem? (i := 31) rfl)
theorem aw_72 : Cond.static Lib.Math.min.name ∈ AL := ia_A1 _ (List.mem_of_getElem? (i := 32) rfl)
theorem aw_73 : Cond.initialized "java/lang/Math" ∈ AL := ia_A1 _ (List.mem_of_getElem? (i := 33) rfl)
theorem aw_74 : Cond.code Lib.Math.min.name Lib.Math.min.code 2 (some .int) ∈ AL := ia_A1 _ (List.mem_of_getElem? (i := 34) rfl)
theorem aw_75 : Cond.methodLink RX1 97 yX3_at ∈ AL := ia_A1 _ (List.mem_of_getElem? (i := 35) rfl)
theorem aw_76 : Cond.constantLong RX6 60 (4294967295) ∈ AL := ia_A1 _ (List.mem_of_getElem? (i := 36) rfl)
theorem aw_77 : Cond.constantLong RX1 105 (4294967295) ∈ AL := ia_A1 _ (List.mem_of_getElem? (i := 37) rfl)
theorem aw_78 : Cond.constant RX1 107 (65535) ∈ AL := ia_A1 _ (List.mem_of_getElem? (i := 38) rfl)
theorem aw_79 : Cond.static yX6_restOf ∈ AL := ia_A1 _ (List.mem_of_getElem? (i := 39) rfl)
theorem aw_80 : Cond.code yX6_restOf cX6_restOf 2 (some .long) ∈ AL := ia_A2 _ (List.mem_of_getElem? (i := 0) rfl)
theorem aw_81 : Cond.methodLink RX3 17 yX3_at ∈ AL := ia_A2 _ (List.mem_of_getElem? (i := 1) rfl)
theorem aw_82 : Cond.fieldLink RX2 20 "LampLine$Packet" "to" "J" ∈ AL := ia_A2 _ (List.mem_of_getElem? (i := 2) rfl)
theorem aw_83 : Cond.constantLong RX2 28 (4294967295) ∈ AL := ia_A2 _ (List.mem_of_getElem? (i := 3) rfl)
theorem aw_84 : Cond.fieldLink RX2 46 "LampLine$Packet" "from" "J" ∈ AL := ia_A2 _ (List.mem_of_getElem? (i := 4) rfl)
theorem aw_85 : Cond.fieldLink RX2 49 "LampLine$Packet" "count" "I" ∈ AL := ia_A2 _ (List.mem_of_getElem? (i := 5) rfl)
theorem aw_86 : Cond.fieldLink RX2 53 "LampLine$Packet" "kind" "I" ∈ AL := ia_A2 _ (List.mem_of_getElem? (i := 6) rfl)
theorem aw_87 : Cond.fieldLink RX2 59 "LampLine$Packet" "part" "I" ∈ AL := ia_A2 _ (List.mem_of_getElem? (i := 7) rfl)
theorem aw_88 : Cond.fieldLink RX2 62 "LampLine$Packet" "group" "I" ∈ AL := ia_A2 _ (List.mem_of_getElem? (i := 8) rfl)
theorem aw_89 : Cond.fieldLink RX2 65 "LampLine$Packet" "matter" "I" ∈ AL := ia_A2 _ (List.mem_of_getElem? (i := 9) rfl)
theorem aw_90 : Cond.fieldLink RX2 16 "LampLine$Packet" "data" "LLampLine$Row;" ∈ AL := ia_A2 _ (List.mem_of_getElem? (i := 10) rfl)
theorem aw_91 : Cond.methodLink RX2 68 yX3_cut ∈ AL := ia_A2 _ (List.mem_of_getElem? (i := 11) rfl)
theorem aw_92 : Cond.fieldLink RX2 56 "LampLine$Packet" "messages" "I" ∈ AL := ia_A2 _ (List.mem_of_getElem? (i := 12) rfl)
theorem aw_93 : Cond.methodLink RX2 34 yX3_size ∈ AL := ia_A2 _ (List.mem_of_getElem? (i := 13) rfl)
theorem aw_94 : Cond.methodLink RX2 71 yX3_put ∈ AL := ia_A2 _ (List.mem_of_getElem? (i := 14) rfl)
theorem aw_95 : Cond.methodLink RX2 74 yX3_putNumber ∈ AL := ia_A2 _ (List.mem_of_getElem? (i := 15) rfl)
theorem aw_96 : Cond.instanceMethod yX3_putNumber ∈ AL := ia_A2 _ (List.mem_of_getElem? (i := 16) rfl)
theorem aw_97 : Cond.selects RX3 yX3_putNumber yX3_putNumber ∈ AL := ia_A2 _ (List.mem_of_getElem? (i := 17) rfl)
theorem aw_98 : Cond.code yX3_putNumber cX3_putNumber 5 none ∈ AL := ia_A2 _ (List.mem_of_getElem? (i := 18) rfl)
theorem aw_99 : Cond.methodLink RX2 30 yX3_at ∈ AL := ia_A2 _ (List.mem_of_getElem? (i := 19) rfl)
theorem aw_100 : Cond.methodLink RX2 38 yX3_sum ∈ AL := ia_A2 _ (List.mem_of_getElem? (i := 20) rfl)
theorem aw_101 : Cond.methodLink RX1 131 yX3_number ∈ AL := ia_A2 _ (List.mem_of_getElem? (i := 21) rfl)
theorem aw_102 : Cond.instanceMethod yX3_number ∈ AL := ia_A2 _ (List.mem_of_getElem? (i := 22) rfl)
theorem aw_103 : Cond.selects RX3 yX3_number yX3_number ∈ AL := ia_A2 _ (List.mem_of_getElem? (i := 23) rfl)
theorem aw_104 : Cond.code yX3_number cX3_number 6 (some .long) ∈ AL := ia_A2 _ (List.mem_of_getElem? (i := 24) rfl)
theorem aw_105 : Cond.methodLink RX1 135 yX0_write ∈ AL := ia_A2 _ (List.mem_of_getElem? (i := 25) rfl)
theorem aw_106 : Cond.static yX0_write ∈ AL := ia_A2 _ (List.mem_of_getElem? (i := 26) rfl)
theorem aw_107 : Cond.initialized RX0 ∈ AL := ia_A2 _ (List.mem_of_getElem? (i := 27) rfl)
theorem aw_108 : Cond.code yX0_write cX0_write 5 none ∈ AL := ia_A2 _ (List.mem_of_getElem? (i := 28) rfl)
theorem aw_109 : Cond.methodLink RX1 117 yX2_isCall ∈ AL := ia_A2 _ (List.mem_of_getElem? (i := 29) rfl)
theorem aw_110 : Cond.instanceMethod yX2_isCall ∈ AL := ia_A2 _ (List.mem_of_getElem? (i := 30) rfl)
theorem aw_111 : Cond.selects RX2 yX2_isCall yX2_isCall ∈ AL := ia_A2 _ (List.mem_of_getElem? (i := 31) rfl)
theorem aw_112 : Cond.initialized RX2 ∈ AL := ia_A2 _ (List.mem_of_getElem? (i := 32) rfl)
theorem aw_113 : Cond.code yX2_isCall cX2_isCall 1 (some .boolean) ∈ AL := ia_A2 _ (List.mem_of_getElem? (i := 33) rfl)
theorem aw_114 : Cond.methodLink RX1 141 yX2_beginReply ∈ AL := ia_A2 _ (List.mem_of_getElem? (i := 34) rfl)
theorem aw_115 : Cond.instanceMethod yX2_beginReply ∈ AL := ia_A2 _ (List.mem_of_getElem? (i := 35) rfl)
theorem aw_116 : Cond.selects RX2 yX2_beginReply yX2_beginReply ∈ AL := ia_A2 _ (List.mem_of_getElem? (i := 36) rfl)
theorem aw_117 : Cond.code yX2_beginReply cX2_beginReply 4 none ∈ AL := ia_A2 _ (List.mem_of_getElem? (i := 37) rfl)
theorem aw_118 : Cond.methodLink RX1 145 yX3_putNumber ∈ AL := ia_A2 _ (List.mem_of_getElem? (i := 38) rfl)
theorem aw_119 : Cond.methodLink RX1 152 yX2_writeTo ∈ AL := ia_A2 _ (List.mem_of_getElem? (i := 39) rfl)
theorem aw_120 : Cond.instanceMethod yX2_writeTo ∈ AL := ia_A3 _ (List.mem_of_getElem? (i := 0) rfl)
theorem aw_121 : Cond.selects RX2 yX2_writeTo yX2_writeTo ∈ AL := ia_A3 _ (List.mem_of_getElem? (i := 1) rfl)
theorem aw_122 : Cond.code yX2_writeTo cX2_writeTo 4 none ∈ AL := ia_A3 _ (List.mem_of_getElem? (i := 2) rfl)
theorem aw_123 : Cond.fieldLink RX1 180 "LampLine$Lamp" "MATTERS" "[I" ∈ AL := ia_A3 _ (List.mem_of_getElem? (i := 3) rfl)
theorem aw_124 : Cond.methodLink RX1 177 yX1_isKnown ∈ AL := ia_A3 _ (List.mem_of_getElem? (i := 4) rfl)
theorem aw_125 : Cond.static yX1_isKnown ∈ AL := ia_A3 _ (List.mem_of_getElem? (i := 5) rfl)
theorem aw_126 : Cond.code yX1_isKnown cX1_isKnown 2 (some .boolean) ∈ AL := ia_A3 _ (List.mem_of_getElem? (i := 6) rfl)
theorem aw_127 : Cond.static yX6_fits ∈ AL := ia_A3 _ (List.mem_of_getElem? (i := 7) rfl)
theorem aw_128 : Cond.code yX6_fits cX6_fits 2 (some .boolean) ∈ AL := ia_A3 _ (List.mem_of_getElem? (i := 8) rfl)
theorem aw_129 : Cond.constantLong RX1 190 (3) ∈ AL := ia_A3 _ (List.mem_of_getElem? (i := 9) rfl)
theorem aw_130 : Cond.methodLink RX1 192 yX3_put ∈ AL := ia_A3 _ (List.mem_of_getElem? (i := 10) rfl)
theorem aw_131 : Cond.methodLink RX1 158 yX1_formRefusal ∈ AL := ia_A3 _ (List.mem_of_getElem? (i := 11) rfl)
theorem aw_132 : Cond.static yX1_formRefusal ∈ AL := ia_A3 _ (List.mem_of_getElem? (i := 12) rfl)
theorem aw_133 : Cond.code yX1_formRefusal cX1_formRefusal 4 (some .int) ∈ AL := ia_A3 _ (List.mem_of_getElem? (i := 13) rfl)
theorem aw_134 : Cond.methodLink RX1 162 yX1_valueRefusal ∈ AL := ia_A3 _ (List.mem_of_getElem? (i := 14) rfl)
theorem aw_135 : Cond.instanceMethod yX1_valueRefusal ∈ AL := ia_A3 _ (List.mem_of_getElem? (i := 15) rfl)
theorem aw_136 : Cond.selects RX1 yX1_valueRefusal yX1_valueRefusal ∈ AL := ia_A3 _ (List.mem_of_getElem? (i := 16) rfl)
theorem aw_137 : Cond.code yX1_valueRefusal cX1_valueRefusal 6 (some .int) ∈ AL := ia_A3 _ (List.mem_of_getElem? (i := 17) rfl)
theorem aw_138 : Cond.methodLink RX1 166 yX2_refuse ∈ AL := ia_A3 _ (List.mem_of_getElem? (i := 18) rfl)
theorem aw_139 : Cond.instanceMethod yX2_refuse ∈ AL := ia_A3 _ (List.mem_of_getElem? (i := 19) rfl)
theorem aw_140 : Cond.selects RX2 yX2_refuse yX2_refuse ∈ AL := ia_A3 _ (List.mem_of_getElem? (i := 20) rfl)
theorem aw_141 : Cond.code yX2_refuse cX2_refuse 2 none ∈ AL := ia_A3 _ (List.mem_of_getElem? (i := 21) rfl)
theorem aw_142 : Cond.methodLink RX1 169 yX1_obey ∈ AL := ia_A3 _ (List.mem_of_getElem? (i := 22) rfl)
theorem aw_143 : Cond.instanceMethod yX1_obey ∈ AL := ia_A3 _ (List.mem_of_getElem? (i := 23) rfl)
theorem aw_144 : Cond.selects RX1 yX1_obey yX1_obey ∈ AL := ia_A3 _ (List.mem_of_getElem? (i := 24) rfl)
theorem aw_145 : Cond.code yX1_obey cX1_obey 7 none ∈ AL := ia_A3 _ (List.mem_of_getElem? (i := 25) rfl)
theorem aw_146 : Cond.methodLink RX1 173 yX1_tell ∈ AL := ia_A3 _ (List.mem_of_getElem? (i := 26) rfl)
theorem aw_147 : Cond.instanceMethod yX1_tell ∈ AL := ia_A3 _ (List.mem_of_getElem? (i := 27) rfl)
theorem aw_148 : Cond.selects RX1 yX1_tell yX1_tell ∈ AL := ia_A3 _ (List.mem_of_getElem? (i := 28) rfl)
theorem aw_149 : Cond.code yX1_tell cX1_tell 6 none ∈ AL := ia_A3 _ (List.mem_of_getElem? (i := 29) rfl)
theorem aw_150 : Cond.methodLink RX1 113 yX1_speaksToSearch ∈ AL := ia_A3 _ (List.mem_of_getElem? (i := 30) rfl)
theorem aw_151 : Cond.instanceMethod yX1_speaksToSearch ∈ AL := ia_A3 _ (List.mem_of_getElem? (i := 31) rfl)
theorem aw_152 : Cond.selects RX1 yX1_speaksToSearch yX1_speaksToSearch ∈ AL := ia_A3 _ (List.mem_of_getElem? (i := 32) rfl)
theorem aw_153 : Cond.code yX1_speaksToSearch cX1_speaksToSearch 5 (some .boolean) ∈ AL := ia_A3 _ (List.mem_of_getElem? (i := 33) rfl)
theorem aw_154 : Cond.methodLink RX1 121 yX1_speaksToOrder ∈ AL := ia_A3 _ (List.mem_of_getElem? (i := 34) rfl)
theorem aw_155 : Cond.instanceMethod yX1_speaksToOrder ∈ AL := ia_A3 _ (List.mem_of_getElem? (i := 35) rfl)
theorem aw_156 : Cond.selects RX1 yX1_speaksToOrder yX1_speaksToOrder ∈ AL := ia_A3 _ (List.mem_of_getElem? (i := 36) rfl)
theorem aw_157 : Cond.code yX1_speaksToOrder cX1_speaksToOrder 8 (some .boolean) ∈ AL := ia_A3 _ (List.mem_of_getElem? (i := 37) rfl)
theorem aw_158 : Cond.methodLink RX2 5 objectInit ∈ AL := ia_A3 _ (List.mem_of_getElem? (i := 38) rfl)
theorem aw_159 : Cond.classLink RX2 11 RX3 ∈ AL := ia_A3 _ (List.mem_of_getElem? (i := 39) rfl)
theorem aw_160 : Cond.methodLink RX2 13 yX3_init ∈ AL := ia_A4 _ (List.mem_of_getElem? (i := 0) rfl)
theorem aw_161 : Cond.methodLink RX2 42 yX3_number ∈ AL := ia_A4 _ (List.mem_of_getElem? (i := 1) rfl)
theorem aw_162 : Cond.methodLink RX4 3 objectInit ∈ AL := ia_A4 _ (List.mem_of_getElem? (i := 2) rfl)
theorem aw_163 : Cond.arrayClass .long ∈ AL := ia_A4 _ (List.mem_of_getElem? (i := 3) rfl)
theorem aw_164 : Cond.fieldLink RX4 11 "LampLine$Search" "lows" "[J" ∈ AL := ia_A4 _ (List.mem_of_getElem? (i := 4) rfl)
theorem aw_165 : Cond.fieldLink RX4 15 "LampLine$Search" "highs" "[J" ∈ AL := ia_A4 _ (List.mem_of_getElem? (i := 5) rfl)
theorem aw_166 : Cond.fieldLink RX4 18 "LampLine$Search" "foundIds" "[J" ∈ AL := ia_A4 _ (List.mem_of_getElem? (i := 6) rfl)
theorem aw_167 : Cond.fieldLink RX4 25 "LampLine$Search" "depth" "I" ∈ AL := ia_A4 _ (List.mem_of_getElem? (i := 7) rfl)
theorem aw_168 : Cond.fieldLink RX4 21 "LampLine$Search" "begun" "Z" ∈ AL := ia_A4 _ (List.mem_of_getElem? (i := 8) rfl)
theorem aw_169 : Cond.fieldLink RX4 29 "LampLine$Search" "foundCount" "I" ∈ AL := ia_A4 _ (List.mem_of_getElem? (i := 9) rfl)
theorem aw_170 : Cond.fieldLink RX4 32 "LampLine$Search" "steps" "I" ∈ AL := ia_A4 _ (List.mem_of_getElem? (i := 10) rfl)
theorem aw_171 : Cond.constantLong RX4 35 (281474976710654) ∈ AL := ia_A4 _ (List.mem_of_getElem? (i := 11) rfl)
theorem aw_172 : Cond.methodLink RX4 37 yX4_pile ∈ AL := ia_A4 _ (List.mem_of_getElem? (i := 12) rfl)
theorem aw_173 : Cond.instanceMethod yX4_pile ∈ AL := ia_A4 _ (List.mem_of_getElem? (i := 13) rfl)
theorem aw_174 : Cond.selects RX4 yX4_pile yX4_pile ∈ AL := ia_A4 _ (List.mem_of_getElem? (i := 14) rfl)
theorem aw_175 : Cond.initialized RX4 ∈ AL := ia_A4 _ (List.mem_of_getElem? (i := 15) rfl)
theorem aw_176 : Cond.code yX4_pile cX4_pile 5 none ∈ AL := ia_A4 _ (List.mem_of_getElem? (i := 16) rfl)
theorem aw_177 : Cond.constantLong RX4 41 (-1) ∈ AL := ia_A4 _ (List.mem_of_getElem? (i := 17) rfl)
theorem aw_178 : Cond.methodLink RX4 43 yX4_hasFound ∈ AL := ia_A4 _ (List.mem_of_getElem? (i := 18) rfl)
theorem aw_179 : Cond.instanceMethod yX4_hasFound ∈ AL := ia_A4 _ (List.mem_of_getElem? (i := 19) rfl)
theorem aw_180 : Cond.selects RX4 yX4_hasFound yX4_hasFound ∈ AL := ia_A4 _ (List.mem_of_getElem? (i := 20) rfl)
theorem aw_181 : Cond.code yX4_hasFound cX4_hasFound 4 (some .boolean) ∈ AL := ia_A4 _ (List.mem_of_getElem? (i := 21) rfl)
theorem aw_182 : Cond.methodLink RX5 1 objectInit ∈ AL := ia_A4 _ (List.mem_of_getElem? (i := 22) rfl)
theorem aw_183 : Cond.fieldLink RX5 9 "LampLine$Spoils" "places" "[I" ∈ AL := ia_A4 _ (List.mem_of_getElem? (i := 23) rfl)
theorem aw_184 : Cond.fieldLink RX5 13 "LampLine$Spoils" "masks" "[I" ∈ AL := ia_A4 _ (List.mem_of_getElem? (i := 24) rfl)
theorem aw_185 : Cond.fieldLink RX5 16 "LampLine$Spoils" "size" "I" ∈ AL := ia_A4 _ (List.mem_of_getElem? (i := 25) rfl)
theorem aw_186 : Cond.methodLink RX5 20 yX5_dropFirst ∈ AL := ia_A4 _ (List.mem_of_getElem? (i := 26) rfl)
theorem aw_187 : Cond.instanceMethod yX5_dropFirst ∈ AL := ia_A4 _ (List.mem_of_getElem? (i := 27) rfl)
theorem aw_188 : Cond.selects RX5 yX5_dropFirst yX5_dropFirst ∈ AL := ia_A4 _ (List.mem_of_getElem? (i := 28) rfl)
theorem aw_189 : Cond.initialized RX5 ∈ AL := ia_A4 _ (List.mem_of_getElem? (i := 29) rfl)
theorem aw_190 : Cond.code yX5_dropFirst cX5_dropFirst 2 none ∈ AL := ia_A4 _ (List.mem_of_getElem? (i := 30) rfl)
theorem aw_191 : Cond.methodLink RX5 23 yX3_flip ∈ AL := ia_A4 _ (List.mem_of_getElem? (i := 31) rfl)
theorem aw_192 : Cond.instanceMethod yX3_flip ∈ AL := ia_A4 _ (List.mem_of_getElem? (i := 32) rfl)
theorem aw_193 : Cond.selects RX3 yX3_flip yX3_flip ∈ AL := ia_A4 _ (List.mem_of_getElem? (i := 33) rfl)
theorem aw_194 : Cond.code yX3_flip cX3_flip 3 none ∈ AL := ia_A4 _ (List.mem_of_getElem? (i := 34) rfl)
theorem aw_195 : Cond.methodLink RX6 1 objectInit ∈ AL := ia_A4 _ (List.mem_of_getElem? (i := 35) rfl)
theorem aw_196 : Cond.classLink RX6 7 RX3 ∈ AL := ia_A4 _ (List.mem_of_getElem? (i := 36) rfl)
theorem aw_197 : Cond.fieldLink RX6 14 "LampLine" "tape" "LLampLine$Row;" ∈ AL := ia_A4 _ (List.mem_of_getElem? (i := 37) rfl)
theorem aw_198 : Cond.fieldLink RX6 18 "LampLine" "frame" "LLampLine$Row;" ∈ AL := ia_A4 _ (List.mem_of_getElem? (i := 38) rfl)
theorem aw_199 : Cond.fieldLink RX6 23 "LampLine" "voice" "LLampLine$Row;" ∈ AL := ia_A4 _ (List.mem_of_getElem? (i := 39) rfl)
theorem aw_200 : Cond.fieldLink RX6 26 "LampLine" "heardAnswer" "LLampLine$Row;" ∈ AL := ia_A5 _ (List.mem_of_getElem? (i := 0) rfl)
theorem aw_201 : Cond.classLink RX6 21 RX2 ∈ AL := ia_A5 _ (List.mem_of_getElem? (i := 1) rfl)
theorem aw_202 : Cond.instantiable RX2 9 ∈ AL := ia_A5 _ (List.mem_of_getElem? (i := 2) rfl)
theorem aw_203 : Cond.fieldLink RX6 30 "LampLine" "question" "LLampLine$Packet;" ∈ AL := ia_A5 _ (List.mem_of_getElem? (i := 3) rfl)
theorem aw_204 : Cond.fieldLink RX6 34 "LampLine" "heard" "LLampLine$Packet;" ∈ AL := ia_A5 _ (List.mem_of_getElem? (i := 4) rfl)
theorem aw_205 : Cond.fieldLink RX6 37 "LampLine" "reply" "LLampLine$Packet;" ∈ AL := ia_A5 _ (List.mem_of_getElem? (i := 5) rfl)
theorem aw_206 : Cond.classLink RX6 40 RX5 ∈ AL := ia_A5 _ (List.mem_of_getElem? (i := 6) rfl)
theorem aw_207 : Cond.instantiable RX5 3 ∈ AL := ia_A5 _ (List.mem_of_getElem? (i := 7) rfl)
theorem aw_208 : Cond.fieldLink RX6 43 "LampLine" "spoils" "LLampLine$Spoils;" ∈ AL := ia_A5 _ (List.mem_of_getElem? (i := 8) rfl)
theorem aw_209 : Cond.classLink RX6 47 RX4 ∈ AL := ia_A5 _ (List.mem_of_getElem? (i := 9) rfl)
theorem aw_210 : Cond.instantiable RX4 7 ∈ AL := ia_A5 _ (List.mem_of_getElem? (i := 10) rfl)
theorem aw_211 : Cond.fieldLink RX6 50 "LampLine" "hunt" "LLampLine$Search;" ∈ AL := ia_A5 _ (List.mem_of_getElem? (i := 11) rfl)
theorem aw_212 : Cond.classLink RX6 54 RX1 ∈ AL := ia_A5 _ (List.mem_of_getElem? (i := 12) rfl)
theorem aw_213 : Cond.fieldLink RX6 56 "LampLine" "lamps" "[LLampLine$Lamp;" ∈ AL := ia_A5 _ (List.mem_of_getElem? (i := 13) rfl)
theorem aw_214 : Cond.methodLink RX6 11 yX3_init ∈ AL := ia_A5 _ (List.mem_of_getElem? (i := 14) rfl)
theorem aw_215 : Cond.instanceMethod yX2_init ∈ AL := ia_A5 _ (List.mem_of_getElem? (i := 15) rfl)
theorem aw_216 : Cond.code yX2_init cX2_init 1 none ∈ AL := ia_A5 _ (List.mem_of_getElem? (i := 16) rfl)
theorem aw_217 : Cond.instanceMethod yX5_init ∈ AL := ia_A5 _ (List.mem_of_getElem? (i := 17) rfl)
theorem aw_218 : Cond.code yX5_init cX5_init 1 none ∈ AL := ia_A5 _ (List.mem_of_getElem? (i := 18) rfl)
theorem aw_219 : Cond.instanceMethod yX4_init ∈ AL := ia_A5 _ (List.mem_of_getElem? (i := 19) rfl)
theorem aw_220 : Cond.code yX4_init cX4_init 1 none ∈ AL := ia_A5 _ (List.mem_of_getElem? (i := 20) rfl)
theorem aw_221 : Cond.fieldLink RX6 87 "LampLine" "lampCount" "I" ∈ AL := ia_A5 _ (List.mem_of_getElem? (i := 21) rfl)
theorem aw_222 : Cond.classLink RX6 62 "java/lang/IllegalArgumentException" ∈ AL := ia_A5 _ (List.mem_of_getElem? (i := 22) rfl)
theorem aw_223 : Cond.initialized "java/lang/IllegalArgumentException" ∈ AL := ia_A5 _ (List.mem_of_getElem? (i := 23) rfl)
theorem aw_224 : Cond.classLink RX6 91 "java/lang/IllegalStateException" ∈ AL := ia_A5 _ (List.mem_of_getElem? (i := 24) rfl)
theorem aw_225 : Cond.initialized "java/lang/IllegalStateException" ∈ AL := ia_A5 _ (List.mem_of_getElem? (i := 25) rfl)
theorem aw_226 : Cond.instantiable RX1 15 ∈ AL := ia_A5 _ (List.mem_of_getElem? (i := 26) rfl)
theorem aw_227 : Cond.methodLink RX6 71 yX6_fits ∈ AL := ia_A5 _ (List.mem_of_getElem? (i := 27) rfl)
theorem aw_228 : Cond.methodLink RX6 77 yX6_joinedId ∈ AL := ia_A5 _ (List.mem_of_getElem? (i := 28) rfl)
theorem aw_229 : Cond.static yX6_joinedId ∈ AL := ia_A5 _ (List.mem_of_getElem? (i := 29) rfl)
theorem aw_230 : Cond.code yX6_joinedId cX6_joinedId 3 (some .long) ∈ AL := ia_A5 _ (List.mem_of_getElem? (i := 30) rfl)
theorem aw_231 : Cond.methodLink RX6 81 yX6_isThere ∈ AL := ia_A5 _ (List.mem_of_getElem? (i := 31) rfl)
theorem aw_232 : Cond.instanceMethod yX6_isThere ∈ AL := ia_A5 _ (List.mem_of_getElem? (i := 32) rfl)
theorem aw_233 : Cond.selects RX6 yX6_isThere yX6_isThere ∈ AL := ia_A5 _ (List.mem_of_getElem? (i := 33) rfl)
theorem aw_234 : Cond.code yX6_isThere cX6_isThere 4 (some .boolean) ∈ AL := ia_A5 _ (List.mem_of_getElem? (i := 34) rfl)
theorem aw_235 : Cond.methodLink RX6 96 yX1_init ∈ AL := ia_A5 _ (List.mem_of_getElem? (i := 35) rfl)
theorem aw_236 : Cond.instanceMethod yX1_init ∈ AL := ia_A5 _ (List.mem_of_getElem? (i := 36) rfl)
theorem aw_237 : Cond.code yX1_init cX1_init 7 none ∈ AL := ia_A5 _ (List.mem_of_getElem? (i := 37) rfl)
theorem aw_238 : Cond.methodLink RX6 99 yX3_size ∈ AL := ia_A5 _ (List.mem_of_getElem? (i := 38) rfl)
theorem aw_239 : Cond.methodLink RX6 105 yX3_putNumber ∈ AL := ia_A5 _ (List.mem_of_getElem? (i := 39) rfl)
theorem aw_240 : Cond.methodLink RX6 111 yX3_cut ∈ AL := ia_A6 _ (List.mem_of_getElem? (i := 0) rfl)
theorem aw_241 : Cond.fieldLink RX6 160 "LampLine" "frameCount" "I" ∈ AL := ia_A6 _ (List.mem_of_getElem? (i := 1) rfl)
theorem aw_242 : Cond.methodLink RX6 126 yX3_at ∈ AL := ia_A6 _ (List.mem_of_getElem? (i := 2) rfl)
theorem aw_243 : Cond.methodLink RX6 246 yX2_readFrom ∈ AL := ia_A6 _ (List.mem_of_getElem? (i := 3) rfl)
theorem aw_244 : Cond.instanceMethod yX2_readFrom ∈ AL := ia_A6 _ (List.mem_of_getElem? (i := 4) rfl)
theorem aw_245 : Cond.selects RX2 yX2_readFrom yX2_readFrom ∈ AL := ia_A6 _ (List.mem_of_getElem? (i := 5) rfl)
theorem aw_246 : Cond.code yX2_readFrom cX2_readFrom 4 (some .boolean) ∈ AL := ia_A6 _ (List.mem_of_getElem? (i := 6) rfl)
theorem aw_247 : Cond.methodLink RX6 250 yX1_ripen ∈ AL := ia_A6 _ (List.mem_of_getElem? (i := 7) rfl)
theorem aw_248 : Cond.instanceMethod yX1_ripen ∈ AL := ia_A6 _ (List.mem_of_getElem? (i := 8) rfl)
theorem aw_249 : Cond.selects RX1 yX1_ripen yX1_ripen ∈ AL := ia_A6 _ (List.mem_of_getElem? (i := 9) rfl)
theorem aw_250 : Cond.code yX1_ripen cX1_ripen 3 none ∈ AL := ia_A6 _ (List.mem_of_getElem? (i := 10) rfl)
theorem aw_251 : Cond.methodLink RX6 253 yX1_shine ∈ AL := ia_A6 _ (List.mem_of_getElem? (i := 11) rfl)
theorem aw_252 : Cond.instanceMethod yX1_shine ∈ AL := ia_A6 _ (List.mem_of_getElem? (i := 12) rfl)
theorem aw_253 : Cond.selects RX1 yX1_shine yX1_shine ∈ AL := ia_A6 _ (List.mem_of_getElem? (i := 13) rfl)
theorem aw_254 : Cond.code yX1_shine cX1_shine 5 none ∈ AL := ia_A6 _ (List.mem_of_getElem? (i := 14) rfl)
theorem aw_255 : Cond.methodLink RX6 260 yX1_isMeantBy ∈ AL := ia_A6 _ (List.mem_of_getElem? (i := 15) rfl)
theorem aw_256 : Cond.instanceMethod yX1_isMeantBy ∈ AL := ia_A6 _ (List.mem_of_getElem? (i := 16) rfl)
theorem aw_257 : Cond.selects RX1 yX1_isMeantBy yX1_isMeantBy ∈ AL := ia_A6 _ (List.mem_of_getElem? (i := 17) rfl)
theorem aw_258 : Cond.code yX1_isMeantBy cX1_isMeantBy 3 (some .boolean) ∈ AL := ia_A6 _ (List.mem_of_getElem? (i := 18) rfl)
theorem aw_259 : Cond.methodLink RX6 263 yX1_speaksTo ∈ AL := ia_A6 _ (List.mem_of_getElem? (i := 19) rfl)
theorem aw_260 : Cond.instanceMethod yX1_speaksTo ∈ AL := ia_A6 _ (List.mem_of_getElem? (i := 20) rfl)
theorem aw_261 : Cond.selects RX1 yX1_speaksTo yX1_speaksTo ∈ AL := ia_A6 _ (List.mem_of_getElem? (i := 21) rfl)
theorem aw_262 : Cond.code yX1_speaksTo cX1_speaksTo 5 (some .boolean) ∈ AL := ia_A6 _ (List.mem_of_getElem? (i := 22) rfl)
theorem aw_263 : Cond.methodLink RX6 267 yX3_join ∈ AL := ia_A6 _ (List.mem_of_getElem? (i := 23) rfl)
theorem aw_264 : Cond.instanceMethod yX3_join ∈ AL := ia_A6 _ (List.mem_of_getElem? (i := 24) rfl)
theorem aw_265 : Cond.selects RX3 yX3_join yX3_join ∈ AL := ia_A6 _ (List.mem_of_getElem? (i := 25) rfl)
theorem aw_266 : Cond.code yX3_join cX3_join 3 none ∈ AL := ia_A6 _ (List.mem_of_getElem? (i := 26) rfl)
theorem aw_267 : Cond.methodLink RX6 270 yX5_applyTo ∈ AL := ia_A6 _ (List.mem_of_getElem? (i := 27) rfl)
theorem aw_268 : Cond.instanceMethod yX5_applyTo ∈ AL := ia_A6 _ (List.mem_of_getElem? (i := 28) rfl)
theorem aw_269 : Cond.selects RX5 yX5_applyTo yX5_applyTo ∈ AL := ia_A6 _ (List.mem_of_getElem? (i := 29) rfl)
theorem aw_270 : Cond.code yX5_applyTo cX5_applyTo 3 none ∈ AL := ia_A6 _ (List.mem_of_getElem? (i := 30) rfl)
theorem aw_271 : Cond.methodLink RX6 114 yX3_copyFrom ∈ AL := ia_A6 _ (List.mem_of_getElem? (i := 31) rfl)
theorem aw_272 : Cond.methodLink RX6 118 yX6_runFrame ∈ AL := ia_A6 _ (List.mem_of_getElem? (i := 32) rfl)
theorem aw_273 : Cond.instanceMethod yX6_runFrame ∈ AL := ia_A6 _ (List.mem_of_getElem? (i := 33) rfl)
theorem aw_274 : Cond.selects RX6 yX6_runFrame yX6_runFrame ∈ AL := ia_A6 _ (List.mem_of_getElem? (i := 34) rfl)
theorem aw_275 : Cond.code yX6_runFrame cX6_runFrame 5 none ∈ AL := ia_A6 _ (List.mem_of_getElem? (i := 35) rfl)
theorem aw_276 : Cond.classLink RX6 121 "java/lang/IndexOutOfBoundsException" ∈ AL := ia_A6 _ (List.mem_of_getElem? (i := 36) rfl)
theorem aw_277 : Cond.initialized "java/lang/IndexOutOfBoundsException" ∈ AL := ia_A6 _ (List.mem_of_getElem? (i := 37) rfl)
theorem aw_278 : Cond.fieldLink RX6 273 "LampLine" "questionCount" "I" ∈ AL := ia_A6 _ (List.mem_of_getElem? (i := 38) rfl)
theorem aw_279 : Cond.constantLong RX6 276 (140728898420737) ∈ AL := ia_A6 _ (List.mem_of_getElem? (i := 39) rfl)
theorem aw_280 : Cond.constant RX6 130 (65535) ∈ AL := ia_A7 _ (List.mem_of_getElem? (i := 0) rfl)
theorem aw_281 : Cond.methodLink RX6 135 yX6_beginQuestion ∈ AL := ia_A7 _ (List.mem_of_getElem? (i := 1) rfl)
theorem aw_282 : Cond.instanceMethod yX6_beginQuestion ∈ AL := ia_A7 _ (List.mem_of_getElem? (i := 2) rfl)
theorem aw_283 : Cond.selects RX6 yX6_beginQuestion yX6_beginQuestion ∈ AL := ia_A7 _ (List.mem_of_getElem? (i := 3) rfl)
theorem aw_284 : Cond.code yX6_beginQuestion cX6_beginQuestion 5 none ∈ AL := ia_A7 _ (List.mem_of_getElem? (i := 4) rfl)
theorem aw_285 : Cond.methodLink RX6 145 yX2_writeTo ∈ AL := ia_A7 _ (List.mem_of_getElem? (i := 5) rfl)
theorem aw_286 : Cond.methodLink RX6 148 yX6_isReplyFrom ∈ AL := ia_A7 _ (List.mem_of_getElem? (i := 6) rfl)
theorem aw_287 : Cond.instanceMethod yX6_isReplyFrom ∈ AL := ia_A7 _ (List.mem_of_getElem? (i := 7) rfl)
theorem aw_288 : Cond.selects RX6 yX6_isReplyFrom yX6_isReplyFrom ∈ AL := ia_A7 _ (List.mem_of_getElem? (i := 8) rfl)
theorem aw_289 : Cond.code yX6_isReplyFrom cX6_isReplyFrom 3 (some .boolean) ∈ AL := ia_A7 _ (List.mem_of_getElem? (i := 9) rfl)
theorem aw_290 : Cond.methodLink RX6 156 yX5_add ∈ AL := ia_A7 _ (List.mem_of_getElem? (i := 10) rfl)
theorem aw_291 : Cond.instanceMethod yX5_add ∈ AL := ia_A7 _ (List.mem_of_getElem? (i := 11) rfl)
theorem aw_292 : Cond.selects RX5 yX5_add yX5_add ∈ AL := ia_A7 _ (List.mem_of_getElem? (i := 12) rfl)
theorem aw_293 : Cond.code yX5_add cX5_add 3 none ∈ AL := ia_A7 _ (List.mem_of_getElem? (i := 13) rfl)
theorem aw_294 : Cond.methodLink RX6 163 yX6_lampAt ∈ AL := ia_A7 _ (List.mem_of_getElem? (i := 14) rfl)
theorem aw_295 : Cond.instanceMethod yX6_lampAt ∈ AL := ia_A7 _ (List.mem_of_getElem? (i := 15) rfl)
theorem aw_296 : Cond.selects RX6 yX6_lampAt yX6_lampAt ∈ AL := ia_A7 _ (List.mem_of_getElem? (i := 16) rfl)
theorem aw_297 : Cond.code yX6_lampAt cX6_lampAt 2 (some (.object "LampLine$Lamp")) ∈ AL := ia_A7 _ (List.mem_of_getElem? (i := 17) rfl)
theorem aw_298 : Cond.methodLink RX6 169 yX1_fact ∈ AL := ia_A7 _ (List.mem_of_getElem? (i := 18) rfl)
theorem aw_299 : Cond.instanceMethod yX1_fact ∈ AL := ia_A7 _ (List.mem_of_getElem? (i := 19) rfl)
theorem aw_300 : Cond.selects RX1 yX1_fact yX1_fact ∈ AL := ia_A7 _ (List.mem_of_getElem? (i := 20) rfl)
theorem aw_301 : Cond.code yX1_fact cX1_fact 3 (some .int) ∈ AL := ia_A7 _ (List.mem_of_getElem? (i := 21) rfl)
theorem aw_302 : Cond.methodLink RX6 177 yX6_restOf ∈ AL := ia_A7 _ (List.mem_of_getElem? (i := 22) rfl)
theorem aw_303 : Cond.methodLink RX6 181 yX1_footprint ∈ AL := ia_A7 _ (List.mem_of_getElem? (i := 23) rfl)
theorem aw_304 : Cond.methodLink RX6 186 yX1_levelAt ∈ AL := ia_A7 _ (List.mem_of_getElem? (i := 24) rfl)
theorem aw_305 : Cond.instanceMethod yX1_levelAt ∈ AL := ia_A7 _ (List.mem_of_getElem? (i := 25) rfl)
theorem aw_306 : Cond.selects RX1 yX1_levelAt yX1_levelAt ∈ AL := ia_A7 _ (List.mem_of_getElem? (i := 26) rfl)
theorem aw_307 : Cond.code yX1_levelAt cX1_levelAt 2 (some .int) ∈ AL := ia_A7 _ (List.mem_of_getElem? (i := 27) rfl)
theorem aw_308 : Cond.methodLink RX6 198 yX6_flag ∈ AL := ia_A7 _ (List.mem_of_getElem? (i := 28) rfl)
theorem aw_309 : Cond.constantLong RX6 205 (281474976710655) ∈ AL := ia_A7 _ (List.mem_of_getElem? (i := 29) rfl)
theorem aw_310 : Cond.methodLink RX6 202 yX4_begin ∈ AL := ia_A7 _ (List.mem_of_getElem? (i := 30) rfl)
theorem aw_311 : Cond.instanceMethod yX4_begin ∈ AL := ia_A7 _ (List.mem_of_getElem? (i := 31) rfl)
theorem aw_312 : Cond.selects RX4 yX4_begin yX4_begin ∈ AL := ia_A7 _ (List.mem_of_getElem? (i := 32) rfl)
theorem aw_313 : Cond.code yX4_begin cX4_begin 1 none ∈ AL := ia_A7 _ (List.mem_of_getElem? (i := 33) rfl)
theorem aw_314 : Cond.methodLink RX6 207 yX6_writeSearch ∈ AL := ia_A7 _ (List.mem_of_getElem? (i := 34) rfl)
theorem aw_315 : Cond.instanceMethod yX6_writeSearch ∈ AL := ia_A7 _ (List.mem_of_getElem? (i := 35) rfl)
theorem aw_316 : Cond.selects RX6 yX6_writeSearch yX6_writeSearch ∈ AL := ia_A7 _ (List.mem_of_getElem? (i := 36) rfl)
theorem aw_317 : Cond.code yX6_writeSearch cX6_writeSearch 4 none ∈ AL := ia_A7 _ (List.mem_of_getElem? (i := 37) rfl)
theorem aw_318 : Cond.methodLink RX6 316 yX4_keepFound ∈ AL := ia_A7 _ (List.mem_of_getElem? (i := 38) rfl)
theorem aw_319 : Cond.instanceMethod yX4_keepFound ∈ AL := ia_A7 _ (List.mem_of_getElem? (i := 39) rfl)
theorem aw_320 : Cond.selects RX4 yX4_keepFound yX4_keepFound ∈ AL := ia_A8 _ (List.mem_of_getElem? (i := 0) rfl)
theorem aw_321 : Cond.code yX4_keepFound cX4_keepFound 3 none ∈ AL := ia_A8 _ (List.mem_of_getElem? (i := 1) rfl)
theorem aw_322 : Cond.methodLink RX6 237 yX4_latestLow ∈ AL := ia_A8 _ (List.mem_of_getElem? (i := 2) rfl)
theorem aw_323 : Cond.instanceMethod yX4_latestLow ∈ AL := ia_A8 _ (List.mem_of_getElem? (i := 3) rfl)
theorem aw_324 : Cond.selects RX4 yX4_latestLow yX4_latestLow ∈ AL := ia_A8 _ (List.mem_of_getElem? (i := 4) rfl)
theorem aw_325 : Cond.code yX4_latestLow cX4_latestLow 1 (some .long) ∈ AL := ia_A8 _ (List.mem_of_getElem? (i := 5) rfl)
theorem aw_326 : Cond.methodLink RX6 241 yX4_latestHigh ∈ AL := ia_A8 _ (List.mem_of_getElem? (i := 6) rfl)
theorem aw_327 : Cond.instanceMethod yX4_latestHigh ∈ AL := ia_A8 _ (List.mem_of_getElem? (i := 7) rfl)
theorem aw_328 : Cond.selects RX4 yX4_latestHigh yX4_latestHigh ∈ AL := ia_A8 _ (List.mem_of_getElem? (i := 8) rfl)
theorem aw_329 : Cond.code yX4_latestHigh cX4_latestHigh 1 (some .long) ∈ AL := ia_A8 _ (List.mem_of_getElem? (i := 9) rfl)
theorem aw_330 : Cond.methodLink RX6 293 yX4_takeLatest ∈ AL := ia_A8 _ (List.mem_of_getElem? (i := 10) rfl)
theorem aw_331 : Cond.instanceMethod yX4_takeLatest ∈ AL := ia_A8 _ (List.mem_of_getElem? (i := 11) rfl)
theorem aw_332 : Cond.selects RX4 yX4_takeLatest yX4_takeLatest ∈ AL := ia_A8 _ (List.mem_of_getElem? (i := 12) rfl)
theorem aw_333 : Cond.code yX4_takeLatest cX4_takeLatest 1 none ∈ AL := ia_A8 _ (List.mem_of_getElem? (i := 13) rfl)
theorem aw_334 : Cond.methodLink RX6 296 yX6_tryId ∈ AL := ia_A8 _ (List.mem_of_getElem? (i := 14) rfl)
theorem aw_335 : Cond.instanceMethod yX6_tryId ∈ AL := ia_A8 _ (List.mem_of_getElem? (i := 15) rfl)
theorem aw_336 : Cond.selects RX6 yX6_tryId yX6_tryId ∈ AL := ia_A8 _ (List.mem_of_getElem? (i := 16) rfl)
theorem aw_337 : Cond.code yX6_tryId cX6_tryId 3 (some .int) ∈ AL := ia_A8 _ (List.mem_of_getElem? (i := 17) rfl)
theorem aw_338 : Cond.methodLink RX6 300 yX4_pile ∈ AL := ia_A8 _ (List.mem_of_getElem? (i := 18) rfl)
theorem aw_339 : Cond.methodLink RX6 304 yX6_writeBranchSearch ∈ AL := ia_A8 _ (List.mem_of_getElem? (i := 19) rfl)
theorem aw_340 : Cond.instanceMethod yX6_writeBranchSearch ∈ AL := ia_A8 _ (List.mem_of_getElem? (i := 20) rfl)
theorem aw_341 : Cond.selects RX6 yX6_writeBranchSearch yX6_writeBranchSearch ∈ AL := ia_A8 _ (List.mem_of_getElem? (i := 21) rfl)
theorem aw_342 : Cond.code yX6_writeBranchSearch cX6_writeBranchSearch 5 none ∈ AL := ia_A8 _ (List.mem_of_getElem? (i := 22) rfl)
theorem aw_343 : Cond.methodLink RX6 307 yX0_read ∈ AL := ia_A8 _ (List.mem_of_getElem? (i := 23) rfl)
theorem aw_344 : Cond.static yX0_read ∈ AL := ia_A8 _ (List.mem_of_getElem? (i := 24) rfl)
theorem aw_345 : Cond.code yX0_read cX0_read 6 (some .long) ∈ AL := ia_A8 _ (List.mem_of_getElem? (i := 25) rfl)
theorem aw_346 : Cond.methodLink RX6 313 yX4_hasFound ∈ AL := ia_A8 _ (List.mem_of_getElem? (i := 26) rfl)
theorem aw_347 : Cond.methodLink RX6 220 yX6_takeStep ∈ AL := ia_A8 _ (List.mem_of_getElem? (i := 27) rfl)
theorem aw_348 : Cond.instanceMethod yX6_takeStep ∈ AL := ia_A8 _ (List.mem_of_getElem? (i := 28) rfl)
theorem aw_349 : Cond.selects RX6 yX6_takeStep yX6_takeStep ∈ AL := ia_A8 _ (List.mem_of_getElem? (i := 29) rfl)
theorem aw_350 : Cond.code yX6_takeStep cX6_takeStep 10 none ∈ AL := ia_A8 _ (List.mem_of_getElem? (i := 30) rfl)
theorem aw_351 : Cond.methodLink RX7 1 objectInit ∈ AL := ia_A8 _ (List.mem_of_getElem? (i := 31) rfl)
theorem aw_352 : Cond.fieldLink RX7 7 "LampLineModel" "maker" "[I" ∈ AL := ia_A8 _ (List.mem_of_getElem? (i := 32) rfl)
theorem aw_353 : Cond.fieldLink RX7 13 "LampLineModel" "rest" "[J" ∈ AL := ia_A8 _ (List.mem_of_getElem? (i := 33) rfl)
theorem aw_354 : Cond.fieldLink RX7 17 "LampLineModel" "width" "[I" ∈ AL := ia_A8 _ (List.mem_of_getElem? (i := 34) rfl)
theorem aw_355 : Cond.fieldLink RX7 20 "LampLineModel" "modes" "[I" ∈ AL := ia_A8 _ (List.mem_of_getElem? (i := 35) rfl)
theorem aw_356 : Cond.fieldLink RX7 23 "LampLineModel" "mode" "[I" ∈ AL := ia_A8 _ (List.mem_of_getElem? (i := 36) rfl)
theorem aw_357 : Cond.fieldLink RX7 26 "LampLineModel" "address" "[I" ∈ AL := ia_A8 _ (List.mem_of_getElem? (i := 37) rfl)
theorem aw_358 : Cond.fieldLink RX7 29 "LampLineModel" "silent" "[Z" ∈ AL := ia_A8 _ (List.mem_of_getElem? (i := 38) rfl)
theorem aw_359 : Cond.fieldLink RX7 33 "LampLineModel" "shows" "[Z" ∈ AL := ia_A8 _ (List.mem_of_getElem? (i := 39) rfl)
theorem aw_360 : Cond.fieldLink RX7 36 "LampLineModel" "labelSize" "[I" ∈ AL := ia_A9 _ (List.mem_of_getElem? (i := 0) rfl)
theorem aw_361 : Cond.arrayClass .byte ∈ AL := ia_A9 _ (List.mem_of_getElem? (i := 1) rfl)
theorem aw_362 : Cond.fieldLink RX7 39 "LampLineModel" "label" "[B" ∈ AL := ia_A9 _ (List.mem_of_getElem? (i := 2) rfl)
theorem aw_363 : Cond.fieldLink RX7 43 "LampLineModel" "asked" "[I" ∈ AL := ia_A9 _ (List.mem_of_getElem? (i := 3) rfl)
theorem aw_364 : Cond.fieldLink RX7 46 "LampLineModel" "levels" "[I" ∈ AL := ia_A9 _ (List.mem_of_getElem? (i := 4) rfl)
theorem aw_365 : Cond.fieldLink RX7 49 "LampLineModel" "lit" "[I" ∈ AL := ia_A9 _ (List.mem_of_getElem? (i := 5) rfl)
theorem aw_366 : Cond.fieldLink RX7 52 "LampLineModel" "laters" "[I" ∈ AL := ia_A9 _ (List.mem_of_getElem? (i := 6) rfl)
theorem aw_367 : Cond.fieldLink RX7 55 "LampLineModel" "due" "[I" ∈ AL := ia_A9 _ (List.mem_of_getElem? (i := 7) rfl)
theorem aw_368 : Cond.fieldLink RX7 58 "LampLineModel" "laterSize" "[I" ∈ AL := ia_A9 _ (List.mem_of_getElem? (i := 8) rfl)
theorem aw_369 : Cond.fieldLink RX7 61 "LampLineModel" "laterBytes" "[B" ∈ AL := ia_A9 _ (List.mem_of_getElem? (i := 9) rfl)
theorem aw_370 : Cond.fieldLink RX7 64 "LampLineModel" "tape" "[B" ∈ AL := ia_A9 _ (List.mem_of_getElem? (i := 10) rfl)
theorem aw_371 : Cond.fieldLink RX7 67 "LampLineModel" "frame" "[B" ∈ AL := ia_A9 _ (List.mem_of_getElem? (i := 11) rfl)
theorem aw_372 : Cond.fieldLink RX7 70 "LampLineModel" "answer" "[B" ∈ AL := ia_A9 _ (List.mem_of_getElem? (i := 12) rfl)
theorem aw_373 : Cond.fieldLink RX7 73 "LampLineModel" "reply" "[B" ∈ AL := ia_A9 _ (List.mem_of_getElem? (i := 13) rfl)
theorem aw_374 : Cond.fieldLink RX7 76 "LampLineModel" "spoilAt" "[I" ∈ AL := ia_A9 _ (List.mem_of_getElem? (i := 14) rfl)
theorem aw_375 : Cond.fieldLink RX7 79 "LampLineModel" "spoilMask" "[I" ∈ AL := ia_A9 _ (List.mem_of_getElem? (i := 15) rfl)
theorem aw_376 : Cond.fieldLink RX7 82 "LampLineModel" "low" "[J" ∈ AL := ia_A9 _ (List.mem_of_getElem? (i := 16) rfl)
theorem aw_377 : Cond.fieldLink RX7 85 "LampLineModel" "high" "[J" ∈ AL := ia_A9 _ (List.mem_of_getElem? (i := 17) rfl)
theorem aw_378 : Cond.fieldLink RX7 88 "LampLineModel" "foundId" "[J" ∈ AL := ia_A9 _ (List.mem_of_getElem? (i := 18) rfl)
theorem aw_379 : Cond.fieldLink RX7 91 "LampLineModel" "thrown" "I" ∈ AL := ia_A9 _ (List.mem_of_getElem? (i := 19) rfl)
theorem aw_380 : Cond.methodLink RX7 95 yX7_idOf ∈ AL := ia_A9 _ (List.mem_of_getElem? (i := 20) rfl)
theorem aw_381 : Cond.static yX7_idOf ∈ AL := ia_A9 _ (List.mem_of_getElem? (i := 21) rfl)
theorem aw_382 : Cond.initialized RX7 ∈ AL := ia_A9 _ (List.mem_of_getElem? (i := 22) rfl)
theorem aw_383 : Cond.code yX7_idOf cX7_idOf 3 (some .long) ∈ AL := ia_A9 _ (List.mem_of_getElem? (i := 23) rfl)
theorem aw_384 : Cond.constantLong RX7 99 (32767) ∈ AL := ia_A9 _ (List.mem_of_getElem? (i := 24) rfl)
theorem aw_385 : Cond.constantLong RX7 105 (4294967294) ∈ AL := ia_A9 _ (List.mem_of_getElem? (i := 25) rfl)
theorem aw_386 : Cond.constantLong RX7 107 (64) ∈ AL := ia_A9 _ (List.mem_of_getElem? (i := 26) rfl)
theorem aw_387 : Cond.constantLong RX7 109 (8) ∈ AL := ia_A9 _ (List.mem_of_getElem? (i := 27) rfl)
theorem aw_388 : Cond.constantLong RX7 111 (512) ∈ AL := ia_A9 _ (List.mem_of_getElem? (i := 28) rfl)
theorem aw_389 : Cond.fieldLink RX7 113 "LampLineModel" "lamps" "I" ∈ AL := ia_A9 _ (List.mem_of_getElem? (i := 29) rfl)
theorem aw_390 : Cond.methodLink RX7 101 yX7_in ∈ AL := ia_A9 _ (List.mem_of_getElem? (i := 30) rfl)
theorem aw_391 : Cond.static yX7_in ∈ AL := ia_A9 _ (List.mem_of_getElem? (i := 31) rfl)
theorem aw_392 : Cond.code yX7_in cX7_in 6 (some .boolean) ∈ AL := ia_A9 _ (List.mem_of_getElem? (i := 32) rfl)
theorem aw_393 : Cond.fieldLink RX7 116 "LampLineModel" "taped" "I" ∈ AL := ia_A9 _ (List.mem_of_getElem? (i := 33) rfl)
theorem aw_394 : Cond.methodLink RX7 119 yX7_goes ∈ AL := ia_A9 _ (List.mem_of_getElem? (i := 34) rfl)
theorem aw_395 : Cond.instanceMethod yX7_goes ∈ AL := ia_A9 _ (List.mem_of_getElem? (i := 35) rfl)
theorem aw_396 : Cond.selects RX7 yX7_goes yX7_goes ∈ AL := ia_A9 _ (List.mem_of_getElem? (i := 36) rfl)
theorem aw_397 : Cond.code yX7_goes cX7_goes 2 (some .boolean) ∈ AL := ia_A9 _ (List.mem_of_getElem? (i := 37) rfl)
theorem aw_398 : Cond.methodLink RX7 123 yX7_at ∈ AL := ia_A9 _ (List.mem_of_getElem? (i := 38) rfl)
theorem aw_399 : Cond.instanceMethod yX7_at ∈ AL := ia_A9 _ (List.mem_of_getElem? (i := 39) rfl)
theorem aw_400 : Cond.selects RX7 yX7_at yX7_at ∈ AL := ia_A10 _ (List.mem_of_getElem? (i := 0) rfl)
theorem aw_401 : Cond.code yX7_at cX7_at 2 (some .int) ∈ AL := ia_A10 _ (List.mem_of_getElem? (i := 1) rfl)
theorem aw_402 : Cond.constantLong RX7 127 (256) ∈ AL := ia_A10 _ (List.mem_of_getElem? (i := 2) rfl)
theorem aw_403 : Cond.fieldLink RX7 129 "LampLineModel" "frames" "I" ∈ AL := ia_A10 _ (List.mem_of_getElem? (i := 3) rfl)
theorem aw_404 : Cond.fieldLink RX7 138 "LampLineModel" "frameSize" "I" ∈ AL := ia_A10 _ (List.mem_of_getElem? (i := 4) rfl)
theorem aw_405 : Cond.methodLink RX7 173 yX7_footprint ∈ AL := ia_A10 _ (List.mem_of_getElem? (i := 5) rfl)
theorem aw_406 : Cond.instanceMethod yX7_footprint ∈ AL := ia_A10 _ (List.mem_of_getElem? (i := 6) rfl)
theorem aw_407 : Cond.selects RX7 yX7_footprint yX7_footprint ∈ AL := ia_A10 _ (List.mem_of_getElem? (i := 7) rfl)
theorem aw_408 : Cond.code yX7_footprint cX7_footprint 2 (some .int) ∈ AL := ia_A10 _ (List.mem_of_getElem? (i := 8) rfl)
theorem aw_409 : Cond.constant RX7 176 (65536) ∈ AL := ia_A10 _ (List.mem_of_getElem? (i := 9) rfl)
theorem aw_410 : Cond.methodLink RX7 177 yX7_two ∈ AL := ia_A10 _ (List.mem_of_getElem? (i := 10) rfl)
theorem aw_411 : Cond.instanceMethod yX7_two ∈ AL := ia_A10 _ (List.mem_of_getElem? (i := 11) rfl)
theorem aw_412 : Cond.selects RX7 yX7_two yX7_two ∈ AL := ia_A10 _ (List.mem_of_getElem? (i := 12) rfl)
theorem aw_413 : Cond.code yX7_two cX7_two 2 (some .int) ∈ AL := ia_A10 _ (List.mem_of_getElem? (i := 13) rfl)
theorem aw_414 : Cond.fieldLink RX7 160 "LampLineModel" "replySize" "I" ∈ AL := ia_A10 _ (List.mem_of_getElem? (i := 14) rfl)
theorem aw_415 : Cond.methodLink RX7 180 yX7_put ∈ AL := ia_A10 _ (List.mem_of_getElem? (i := 15) rfl)
theorem aw_416 : Cond.instanceMethod yX7_put ∈ AL := ia_A10 _ (List.mem_of_getElem? (i := 16) rfl)
theorem aw_417 : Cond.selects RX7 yX7_put yX7_put ∈ AL := ia_A10 _ (List.mem_of_getElem? (i := 17) rfl)
theorem aw_418 : Cond.code yX7_put cX7_put 2 none ∈ AL := ia_A10 _ (List.mem_of_getElem? (i := 18) rfl)
theorem aw_419 : Cond.methodLink RX7 153 yX7_ownId ∈ AL := ia_A10 _ (List.mem_of_getElem? (i := 19) rfl)
theorem aw_420 : Cond.instanceMethod yX7_ownId ∈ AL := ia_A10 _ (List.mem_of_getElem? (i := 20) rfl)
theorem aw_421 : Cond.selects RX7 yX7_ownId yX7_ownId ∈ AL := ia_A10 _ (List.mem_of_getElem? (i := 21) rfl)
theorem aw_422 : Cond.code yX7_ownId cX7_ownId 2 (some .long) ∈ AL := ia_A10 _ (List.mem_of_getElem? (i := 22) rfl)
theorem aw_423 : Cond.methodLink RX7 183 yX7_putId ∈ AL := ia_A10 _ (List.mem_of_getElem? (i := 23) rfl)
theorem aw_424 : Cond.instanceMethod yX7_putId ∈ AL := ia_A10 _ (List.mem_of_getElem? (i := 24) rfl)
theorem aw_425 : Cond.selects RX7 yX7_putId yX7_putId ∈ AL := ia_A10 _ (List.mem_of_getElem? (i := 25) rfl)
theorem aw_426 : Cond.code yX7_putId cX7_putId 4 none ∈ AL := ia_A10 _ (List.mem_of_getElem? (i := 26) rfl)
theorem aw_427 : Cond.methodLink RX7 187 yX7_putTwo ∈ AL := ia_A10 _ (List.mem_of_getElem? (i := 27) rfl)
theorem aw_428 : Cond.instanceMethod yX7_putTwo ∈ AL := ia_A10 _ (List.mem_of_getElem? (i := 28) rfl)
theorem aw_429 : Cond.selects RX7 yX7_putTwo yX7_putTwo ∈ AL := ia_A10 _ (List.mem_of_getElem? (i := 29) rfl)
theorem aw_430 : Cond.code yX7_putTwo cX7_putTwo 2 none ∈ AL := ia_A10 _ (List.mem_of_getElem? (i := 30) rfl)
theorem aw_431 : Cond.methodLink RX7 190 yX7_waiting ∈ AL := ia_A10 _ (List.mem_of_getElem? (i := 31) rfl)
theorem aw_432 : Cond.instanceMethod yX7_waiting ∈ AL := ia_A10 _ (List.mem_of_getElem? (i := 32) rfl)
theorem aw_433 : Cond.selects RX7 yX7_waiting yX7_waiting ∈ AL := ia_A10 _ (List.mem_of_getElem? (i := 33) rfl)
theorem aw_434 : Cond.code yX7_waiting cX7_waiting 4 (some .int) ∈ AL := ia_A10 _ (List.mem_of_getElem? (i := 34) rfl)
theorem aw_435 : Cond.methodLink RX7 149 yX7_six ∈ AL := ia_A10 _ (List.mem_of_getElem? (i := 35) rfl)
theorem aw_436 : Cond.instanceMethod yX7_six ∈ AL := ia_A10 _ (List.mem_of_getElem? (i := 36) rfl)
theorem aw_437 : Cond.selects RX7 yX7_six yX7_six ∈ AL := ia_A10 _ (List.mem_of_getElem? (i := 37) rfl)
theorem aw_438 : Cond.code yX7_six cX7_six 5 (some .long) ∈ AL := ia_A10 _ (List.mem_of_getElem? (i := 38) rfl)
theorem aw_439 : Cond.methodLink RX7 202 yX7_show ∈ AL := ia_A10 _ (List.mem_of_getElem? (i := 39) rfl)
theorem aw_440 : Cond.instanceMethod yX7_show ∈ AL := ia_A11 _ (List.mem_of_getElem? (i := 0) rfl)
theorem aw_441 : Cond.selects RX7 yX7_show yX7_show ∈ AL := ia_A11 _ (List.mem_of_getElem? (i := 1) rfl)
theorem aw_442 : Cond.code yX7_show cX7_show 6 none ∈ AL := ia_A11 _ (List.mem_of_getElem? (i := 2) rfl)
theorem aw_443 : Cond.methodLink RX7 205 yX7_begin ∈ AL := ia_A11 _ (List.mem_of_getElem? (i := 3) rfl)
theorem aw_444 : Cond.instanceMethod yX7_begin ∈ AL := ia_A11 _ (List.mem_of_getElem? (i := 4) rfl)
theorem aw_445 : Cond.selects RX7 yX7_begin yX7_begin ∈ AL := ia_A11 _ (List.mem_of_getElem? (i := 5) rfl)
theorem aw_446 : Cond.code yX7_begin cX7_begin 6 none ∈ AL := ia_A11 _ (List.mem_of_getElem? (i := 6) rfl)
theorem aw_447 : Cond.methodLink RX7 209 yX7_finish ∈ AL := ia_A11 _ (List.mem_of_getElem? (i := 7) rfl)
theorem aw_448 : Cond.instanceMethod yX7_finish ∈ AL := ia_A11 _ (List.mem_of_getElem? (i := 8) rfl)
theorem aw_449 : Cond.selects RX7 yX7_finish yX7_finish ∈ AL := ia_A11 _ (List.mem_of_getElem? (i := 9) rfl)
theorem aw_450 : Cond.code yX7_finish cX7_finish 4 none ∈ AL := ia_A11 _ (List.mem_of_getElem? (i := 10) rfl)
theorem aw_451 : Cond.methodLink RX7 212 yX7_refuse ∈ AL := ia_A11 _ (List.mem_of_getElem? (i := 11) rfl)
theorem aw_452 : Cond.instanceMethod yX7_refuse ∈ AL := ia_A11 _ (List.mem_of_getElem? (i := 12) rfl)
theorem aw_453 : Cond.selects RX7 yX7_refuse yX7_refuse ∈ AL := ia_A11 _ (List.mem_of_getElem? (i := 13) rfl)
theorem aw_454 : Cond.code yX7_refuse cX7_refuse 4 none ∈ AL := ia_A11 _ (List.mem_of_getElem? (i := 14) rfl)
theorem aw_455 : Cond.methodLink RX7 216 yX7_isMatter ∈ AL := ia_A11 _ (List.mem_of_getElem? (i := 15) rfl)
theorem aw_456 : Cond.static yX7_isMatter ∈ AL := ia_A11 _ (List.mem_of_getElem? (i := 16) rfl)
theorem aw_457 : Cond.code yX7_isMatter cX7_isMatter 1 (some .boolean) ∈ AL := ia_A11 _ (List.mem_of_getElem? (i := 17) rfl)
theorem aw_458 : Cond.methodLink RX7 220 yX7_getWaiting ∈ AL := ia_A11 _ (List.mem_of_getElem? (i := 18) rfl)
theorem aw_459 : Cond.instanceMethod yX7_getWaiting ∈ AL := ia_A11 _ (List.mem_of_getElem? (i := 19) rfl)
theorem aw_460 : Cond.selects RX7 yX7_getWaiting yX7_getWaiting ∈ AL := ia_A11 _ (List.mem_of_getElem? (i := 20) rfl)
theorem aw_461 : Cond.code yX7_getWaiting cX7_getWaiting 6 none ∈ AL := ia_A11 _ (List.mem_of_getElem? (i := 21) rfl)
theorem aw_462 : Cond.methodLink RX7 223 yX7_tell ∈ AL := ia_A11 _ (List.mem_of_getElem? (i := 22) rfl)
theorem aw_463 : Cond.instanceMethod yX7_tell ∈ AL := ia_A11 _ (List.mem_of_getElem? (i := 23) rfl)
theorem aw_464 : Cond.selects RX7 yX7_tell yX7_tell ∈ AL := ia_A11 _ (List.mem_of_getElem? (i := 24) rfl)
theorem aw_465 : Cond.code yX7_tell cX7_tell 5 none ∈ AL := ia_A11 _ (List.mem_of_getElem? (i := 25) rfl)
theorem aw_466 : Cond.constantLong RX7 235 (32) ∈ AL := ia_A11 _ (List.mem_of_getElem? (i := 26) rfl)
theorem aw_467 : Cond.constantLong RX7 237 (126) ∈ AL := ia_A11 _ (List.mem_of_getElem? (i := 27) rfl)
theorem aw_468 : Cond.constant RX7 227 (65535) ∈ AL := ia_A11 _ (List.mem_of_getElem? (i := 28) rfl)
theorem aw_469 : Cond.methodLink RX7 228 yX7_mayBe ∈ AL := ia_A11 _ (List.mem_of_getElem? (i := 29) rfl)
theorem aw_470 : Cond.instanceMethod yX7_mayBe ∈ AL := ia_A11 _ (List.mem_of_getElem? (i := 30) rfl)
theorem aw_471 : Cond.selects RX7 yX7_mayBe yX7_mayBe ∈ AL := ia_A11 _ (List.mem_of_getElem? (i := 31) rfl)
theorem aw_472 : Cond.code yX7_mayBe cX7_mayBe 6 (some .boolean) ∈ AL := ia_A11 _ (List.mem_of_getElem? (i := 32) rfl)
theorem aw_473 : Cond.methodLink RX7 232 yX7_setLabel ∈ AL := ia_A11 _ (List.mem_of_getElem? (i := 33) rfl)
theorem aw_474 : Cond.instanceMethod yX7_setLabel ∈ AL := ia_A11 _ (List.mem_of_getElem? (i := 34) rfl)
theorem aw_475 : Cond.selects RX7 yX7_setLabel yX7_setLabel ∈ AL := ia_A11 _ (List.mem_of_getElem? (i := 35) rfl)
theorem aw_476 : Cond.code yX7_setLabel cX7_setLabel 6 none ∈ AL := ia_A11 _ (List.mem_of_getElem? (i := 36) rfl)
theorem aw_477 : Cond.methodLink RX7 193 yX7_hearSearch ∈ AL := ia_A11 _ (List.mem_of_getElem? (i := 37) rfl)
theorem aw_478 : Cond.instanceMethod yX7_hearSearch ∈ AL := ia_A11 _ (List.mem_of_getElem? (i := 38) rfl)
theorem aw_479 : Cond.selects RX7 yX7_hearSearch yX7_hearSearch ∈ AL := ia_A11 _ (List.mem_of_getElem? (i := 39) rfl)
theorem aw_480 : Cond.code yX7_hearSearch cX7_hearSearch 7 none ∈ AL := ia_A12 _ (List.mem_of_getElem? (i := 0) rfl)
theorem aw_481 : Cond.methodLink RX7 196 yX7_get ∈ AL := ia_A12 _ (List.mem_of_getElem? (i := 1) rfl)
theorem aw_482 : Cond.instanceMethod yX7_get ∈ AL := ia_A12 _ (List.mem_of_getElem? (i := 2) rfl)
theorem aw_483 : Cond.selects RX7 yX7_get yX7_get ∈ AL := ia_A12 _ (List.mem_of_getElem? (i := 3) rfl)
theorem aw_484 : Cond.code yX7_get cX7_get 3 none ∈ AL := ia_A12 _ (List.mem_of_getElem? (i := 4) rfl)
theorem aw_485 : Cond.methodLink RX7 199 yX7_set ∈ AL := ia_A12 _ (List.mem_of_getElem? (i := 5) rfl)
theorem aw_486 : Cond.instanceMethod yX7_set ∈ AL := ia_A12 _ (List.mem_of_getElem? (i := 6) rfl)
theorem aw_487 : Cond.selects RX7 yX7_set yX7_set ∈ AL := ia_A12 _ (List.mem_of_getElem? (i := 7) rfl)
theorem aw_488 : Cond.code yX7_set cX7_set 6 none ∈ AL := ia_A12 _ (List.mem_of_getElem? (i := 8) rfl)
theorem aw_489 : Cond.fieldLink RX7 135 "LampLineModel" "answered" "I" ∈ AL := ia_A12 _ (List.mem_of_getElem? (i := 9) rfl)
theorem aw_490 : Cond.constantLong RX7 156 (4294967295) ∈ AL := ia_A12 _ (List.mem_of_getElem? (i := 10) rfl)
theorem aw_491 : Cond.constantLong RX7 158 (65535) ∈ AL := ia_A12 _ (List.mem_of_getElem? (i := 11) rfl)
theorem aw_492 : Cond.fieldLink RX7 170 "LampLineModel" "spoils" "I" ∈ AL := ia_A12 _ (List.mem_of_getElem? (i := 12) rfl)
theorem aw_493 : Cond.methodLink RX7 132 yX7_doDue ∈ AL := ia_A12 _ (List.mem_of_getElem? (i := 13) rfl)
theorem aw_494 : Cond.instanceMethod yX7_doDue ∈ AL := ia_A12 _ (List.mem_of_getElem? (i := 14) rfl)
theorem aw_495 : Cond.selects RX7 yX7_doDue yX7_doDue ∈ AL := ia_A12 _ (List.mem_of_getElem? (i := 15) rfl)
theorem aw_496 : Cond.code yX7_doDue cX7_doDue 5 none ∈ AL := ia_A12 _ (List.mem_of_getElem? (i := 16) rfl)
theorem aw_497 : Cond.methodLink RX7 141 yX7_takeLevels ∈ AL := ia_A12 _ (List.mem_of_getElem? (i := 17) rfl)
theorem aw_498 : Cond.instanceMethod yX7_takeLevels ∈ AL := ia_A12 _ (List.mem_of_getElem? (i := 18) rfl)
theorem aw_499 : Cond.selects RX7 yX7_takeLevels yX7_takeLevels ∈ AL := ia_A12 _ (List.mem_of_getElem? (i := 19) rfl)
theorem aw_500 : Cond.code yX7_takeLevels cX7_takeLevels 3 none ∈ AL := ia_A12 _ (List.mem_of_getElem? (i := 20) rfl)
theorem aw_501 : Cond.methodLink RX7 145 yX7_isPacket ∈ AL := ia_A12 _ (List.mem_of_getElem? (i := 21) rfl)
theorem aw_502 : Cond.instanceMethod yX7_isPacket ∈ AL := ia_A12 _ (List.mem_of_getElem? (i := 22) rfl)
theorem aw_503 : Cond.selects RX7 yX7_isPacket yX7_isPacket ∈ AL := ia_A12 _ (List.mem_of_getElem? (i := 23) rfl)
theorem aw_504 : Cond.code yX7_isPacket cX7_isPacket 3 (some .boolean) ∈ AL := ia_A12 _ (List.mem_of_getElem? (i := 24) rfl)
theorem aw_505 : Cond.methodLink RX7 163 yX7_hear ∈ AL := ia_A12 _ (List.mem_of_getElem? (i := 25) rfl)
theorem aw_506 : Cond.instanceMethod yX7_hear ∈ AL := ia_A12 _ (List.mem_of_getElem? (i := 26) rfl)
theorem aw_507 : Cond.selects RX7 yX7_hear yX7_hear ∈ AL := ia_A12 _ (List.mem_of_getElem? (i := 27) rfl)
theorem aw_508 : Cond.code yX7_hear cX7_hear 3 none ∈ AL := ia_A12 _ (List.mem_of_getElem? (i := 28) rfl)
theorem aw_509 : Cond.methodLink RX7 167 yX7_fall ∈ AL := ia_A12 _ (List.mem_of_getElem? (i := 29) rfl)
theorem aw_510 : Cond.instanceMethod yX7_fall ∈ AL := ia_A12 _ (List.mem_of_getElem? (i := 30) rfl)
theorem aw_511 : Cond.selects RX7 yX7_fall yX7_fall ∈ AL := ia_A12 _ (List.mem_of_getElem? (i := 31) rfl)
theorem aw_512 : Cond.code yX7_fall cX7_fall 2 none ∈ AL := ia_A12 _ (List.mem_of_getElem? (i := 32) rfl)
theorem aw_513 : Cond.methodLink RX7 239 yX7_look ∈ AL := ia_A12 _ (List.mem_of_getElem? (i := 33) rfl)
theorem aw_514 : Cond.instanceMethod yX7_look ∈ AL := ia_A12 _ (List.mem_of_getElem? (i := 34) rfl)
theorem aw_515 : Cond.selects RX7 yX7_look yX7_look ∈ AL := ia_A12 _ (List.mem_of_getElem? (i := 35) rfl)
theorem aw_516 : Cond.code yX7_look cX7_look 6 none ∈ AL := ia_A12 _ (List.mem_of_getElem? (i := 36) rfl)
theorem aw_517 : Cond.methodLink RX7 242 yX7_write ∈ AL := ia_A12 _ (List.mem_of_getElem? (i := 37) rfl)
theorem aw_518 : Cond.instanceMethod yX7_write ∈ AL := ia_A12 _ (List.mem_of_getElem? (i := 38) rfl)
theorem aw_519 : Cond.selects RX7 yX7_write yX7_write ∈ AL := ia_A12 _ (List.mem_of_getElem? (i := 39) rfl)
theorem aw_520 : Cond.code yX7_write cX7_write 2 none ∈ AL := ia_A13 _ (List.mem_of_getElem? (i := 0) rfl)
theorem aw_521 : Cond.fieldLink RX7 245 "LampLineModel" "counted" "I" ∈ AL := ia_A13 _ (List.mem_of_getElem? (i := 1) rfl)
theorem aw_522 : Cond.methodLink RX7 248 yX7_writeSix ∈ AL := ia_A13 _ (List.mem_of_getElem? (i := 2) rfl)
theorem aw_523 : Cond.instanceMethod yX7_writeSix ∈ AL := ia_A13 _ (List.mem_of_getElem? (i := 3) rfl)
theorem aw_524 : Cond.selects RX7 yX7_writeSix yX7_writeSix ∈ AL := ia_A13 _ (List.mem_of_getElem? (i := 4) rfl)
theorem aw_525 : Cond.code yX7_writeSix cX7_writeSix 4 none ∈ AL := ia_A13 _ (List.mem_of_getElem? (i := 5) rfl)
theorem aw_526 : Cond.methodLink RX7 251 yX7_heard ∈ AL := ia_A13 _ (List.mem_of_getElem? (i := 6) rfl)
theorem aw_527 : Cond.instanceMethod yX7_heard ∈ AL := ia_A13 _ (List.mem_of_getElem? (i := 7) rfl)
theorem aw_528 : Cond.selects RX7 yX7_heard yX7_heard ∈ AL := ia_A13 _ (List.mem_of_getElem? (i := 8) rfl)
theorem aw_529 : Cond.code yX7_heard cX7_heard 2 (some .int) ∈ AL := ia_A13 _ (List.mem_of_getElem? (i := 9) rfl)
theorem aw_530 : Cond.methodLink RX7 254 yX7_heardSix ∈ AL := ia_A13 _ (List.mem_of_getElem? (i := 10) rfl)
theorem aw_531 : Cond.instanceMethod yX7_heardSix ∈ AL := ia_A13 _ (List.mem_of_getElem? (i := 11) rfl)
theorem aw_532 : Cond.selects RX7 yX7_heardSix yX7_heardSix ∈ AL := ia_A13 _ (List.mem_of_getElem? (i := 12) rfl)
theorem aw_533 : Cond.code yX7_heardSix cX7_heardSix 5 (some .long) ∈ AL := ia_A13 _ (List.mem_of_getElem? (i := 13) rfl)
theorem aw_534 : Cond.constantLong RX7 257 (255) ∈ AL := ia_A13 _ (List.mem_of_getElem? (i := 14) rfl)
theorem aw_535 : Cond.methodLink RX7 259 yX7_beginPacket ∈ AL := ia_A13 _ (List.mem_of_getElem? (i := 15) rfl)
theorem aw_536 : Cond.instanceMethod yX7_beginPacket ∈ AL := ia_A13 _ (List.mem_of_getElem? (i := 16) rfl)
theorem aw_537 : Cond.selects RX7 yX7_beginPacket yX7_beginPacket ∈ AL := ia_A13 _ (List.mem_of_getElem? (i := 17) rfl)
theorem aw_538 : Cond.code yX7_beginPacket cX7_beginPacket 6 none ∈ AL := ia_A13 _ (List.mem_of_getElem? (i := 18) rfl)
theorem aw_539 : Cond.methodLink RX7 263 yX7_sendOff ∈ AL := ia_A13 _ (List.mem_of_getElem? (i := 19) rfl)
theorem aw_540 : Cond.instanceMethod yX7_sendOff ∈ AL := ia_A13 _ (List.mem_of_getElem? (i := 20) rfl)
theorem aw_541 : Cond.selects RX7 yX7_sendOff yX7_sendOff ∈ AL := ia_A13 _ (List.mem_of_getElem? (i := 21) rfl)
theorem aw_542 : Cond.code yX7_sendOff cX7_sendOff 3 none ∈ AL := ia_A13 _ (List.mem_of_getElem? (i := 22) rfl)
theorem aw_543 : Cond.methodLink RX7 266 yX7_isReply ∈ AL := ia_A13 _ (List.mem_of_getElem? (i := 23) rfl)
theorem aw_544 : Cond.instanceMethod yX7_isReply ∈ AL := ia_A13 _ (List.mem_of_getElem? (i := 24) rfl)
theorem aw_545 : Cond.selects RX7 yX7_isReply yX7_isReply ∈ AL := ia_A13 _ (List.mem_of_getElem? (i := 25) rfl)
theorem aw_546 : Cond.code yX7_isReply cX7_isReply 5 (some .boolean) ∈ AL := ia_A13 _ (List.mem_of_getElem? (i := 26) rfl)
theorem aw_547 : Cond.constantLong RX7 270 (300) ∈ AL := ia_A13 _ (List.mem_of_getElem? (i := 27) rfl)
theorem aw_548 : Cond.constantLong RX7 275 (10) ∈ AL := ia_A13 _ (List.mem_of_getElem? (i := 28) rfl)
theorem aw_549 : Cond.methodLink RX7 272 yX7_isLamp ∈ AL := ia_A13 _ (List.mem_of_getElem? (i := 29) rfl)
theorem aw_550 : Cond.instanceMethod yX7_isLamp ∈ AL := ia_A13 _ (List.mem_of_getElem? (i := 30) rfl)
theorem aw_551 : Cond.selects RX7 yX7_isLamp yX7_isLamp ∈ AL := ia_A13 _ (List.mem_of_getElem? (i := 31) rfl)
theorem aw_552 : Cond.code yX7_isLamp cX7_isLamp 2 (some .boolean) ∈ AL := ia_A13 _ (List.mem_of_getElem? (i := 32) rfl)
theorem aw_553 : Cond.fieldLink RX7 277 "LampLineModel" "searching" "Z" ∈ AL := ia_A13 _ (List.mem_of_getElem? (i := 33) rfl)
theorem aw_554 : Cond.fieldLink RX7 281 "LampLineModel" "steps" "I" ∈ AL := ia_A13 _ (List.mem_of_getElem? (i := 34) rfl)
theorem aw_555 : Cond.fieldLink RX7 284 "LampLineModel" "found" "I" ∈ AL := ia_A13 _ (List.mem_of_getElem? (i := 35) rfl)
theorem aw_556 : Cond.fieldLink RX7 287 "LampLineModel" "branches" "I" ∈ AL := ia_A13 _ (List.mem_of_getElem? (i := 36) rfl)
theorem aw_557 : Cond.constantLong RX7 290 (281474976710654) ∈ AL := ia_A13 _ (List.mem_of_getElem? (i := 37) rfl)
theorem aw_558 : Cond.constantLong RX7 292 (281474976710655) ∈ AL := ia_A13 _ (List.mem_of_getElem? (i := 38) rfl)
theorem aw_559 : Cond.methodLink RX7 294 yX7_isFound ∈ AL := ia_A13 _ (List.mem_of_getElem? (i := 39) rfl)
theorem aw_560 : Cond.instanceMethod yX7_isFound ∈ AL := ia_A14 _ (List.mem_of_getElem? (i := 0) rfl)
theorem aw_561 : Cond.selects RX7 yX7_isFound yX7_isFound ∈ AL := ia_A14 _ (List.mem_of_getElem? (i := 1) rfl)
theorem aw_562 : Cond.code yX7_isFound cX7_isFound 5 (some .boolean) ∈ AL := ia_A14 _ (List.mem_of_getElem? (i := 2) rfl)
theorem aw_563 : Cond.constantLong RX7 297 (-1) ∈ AL := ia_A14 _ (List.mem_of_getElem? (i := 3) rfl)
theorem aw_564 : Cond.constantLong RX7 314 (2) ∈ AL := ia_A14 _ (List.mem_of_getElem? (i := 4) rfl)
theorem aw_565 : Cond.methodLink RX7 299 yX7_isId ∈ AL := ia_A14 _ (List.mem_of_getElem? (i := 5) rfl)
theorem aw_566 : Cond.static yX7_isId ∈ AL := ia_A14 _ (List.mem_of_getElem? (i := 6) rfl)
theorem aw_567 : Cond.code yX7_isId cX7_isId 2 (some .boolean) ∈ AL := ia_A14 _ (List.mem_of_getElem? (i := 7) rfl)
theorem aw_568 : Cond.methodLink RX7 302 yX7_tried ∈ AL := ia_A14 _ (List.mem_of_getElem? (i := 8) rfl)
theorem aw_569 : Cond.instanceMethod yX7_tried ∈ AL := ia_A14 _ (List.mem_of_getElem? (i := 9) rfl)
theorem aw_570 : Cond.selects RX7 yX7_tried yX7_tried ∈ AL := ia_A14 _ (List.mem_of_getElem? (i := 10) rfl)
theorem aw_571 : Cond.code yX7_tried cX7_tried 3 (some .int) ∈ AL := ia_A14 _ (List.mem_of_getElem? (i := 11) rfl)
theorem aw_572 : Cond.methodLink RX7 306 yX7_push ∈ AL := ia_A14 _ (List.mem_of_getElem? (i := 12) rfl)
theorem aw_573 : Cond.instanceMethod yX7_push ∈ AL := ia_A14 _ (List.mem_of_getElem? (i := 13) rfl)
theorem aw_574 : Cond.selects RX7 yX7_push yX7_push ∈ AL := ia_A14 _ (List.mem_of_getElem? (i := 14) rfl)
theorem aw_575 : Cond.code yX7_push cX7_push 5 none ∈ AL := ia_A14 _ (List.mem_of_getElem? (i := 15) rfl)
theorem aw_576 : Cond.methodLink RX7 310 yX7_shown ∈ AL := ia_A14 _ (List.mem_of_getElem? (i := 16) rfl)
theorem aw_577 : Cond.instanceMethod yX7_shown ∈ AL := ia_A14 _ (List.mem_of_getElem? (i := 17) rfl)
theorem aw_578 : Cond.selects RX7 yX7_shown yX7_shown ∈ AL := ia_A14 _ (List.mem_of_getElem? (i := 18) rfl)
theorem aw_579 : Cond.code yX7_shown cX7_shown 8 (some .long) ∈ AL := ia_A14 _ (List.mem_of_getElem? (i := 19) rfl)
theorem aw_580 : Cond.constantLong RX7 316 (1000) ∈ AL := ia_A14 _ (List.mem_of_getElem? (i := 20) rfl)
theorem aw_581 : Cond.methodLink RX7 318 yX7_stepOnce ∈ AL := ia_A14 _ (List.mem_of_getElem? (i := 21) rfl)
theorem aw_582 : Cond.instanceMethod yX7_stepOnce ∈ AL := ia_A14 _ (List.mem_of_getElem? (i := 22) rfl)
theorem aw_583 : Cond.selects RX7 yX7_stepOnce yX7_stepOnce ∈ AL := ia_A14 _ (List.mem_of_getElem? (i := 23) rfl)
theorem aw_584 : Cond.code yX7_stepOnce cX7_stepOnce 9 none ∈ AL := ia_A14 _ (List.mem_of_getElem? (i := 24) rfl)
theorem aw_585 : Cond.classLink RL 13 "java/lang/IllegalArgumentException" ∈ AL := ia_A14 _ (List.mem_of_getElem? (i := 25) rfl)
theorem aw_586 : Cond.classLink RL 15 "java/lang/IllegalStateException" ∈ AL := ia_A14 _ (List.mem_of_getElem? (i := 26) rfl)
theorem aw_587 : Cond.methodLink RL 7 yX6_lamp ∈ AL := ia_A14 _ (List.mem_of_getElem? (i := 27) rfl)
theorem aw_588 : Cond.instanceMethod yX6_lamp ∈ AL := ia_A14 _ (List.mem_of_getElem? (i := 28) rfl)
theorem aw_589 : Cond.selects RX6 yX6_lamp yX6_lamp ∈ AL := ia_A14 _ (List.mem_of_getElem? (i := 29) rfl)
theorem aw_590 : Cond.code yX6_lamp cX6_lamp 9 (some .int) ∈ AL := ia_A14 _ (List.mem_of_getElem? (i := 30) rfl)
theorem aw_591 : Cond.methodLink RL 17 yX6_feed ∈ AL := ia_A14 _ (List.mem_of_getElem? (i := 31) rfl)
theorem aw_592 : Cond.instanceMethod yX6_feed ∈ AL := ia_A14 _ (List.mem_of_getElem? (i := 32) rfl)
theorem aw_593 : Cond.selects RX6 yX6_feed yX6_feed ∈ AL := ia_A14 _ (List.mem_of_getElem? (i := 33) rfl)
theorem aw_594 : Cond.code yX6_feed cX6_feed 6 (some .int) ∈ AL := ia_A14 _ (List.mem_of_getElem? (i := 34) rfl)
theorem aw_595 : Cond.methodLink RL 21 yX6_end ∈ AL := ia_A14 _ (List.mem_of_getElem? (i := 35) rfl)
theorem aw_596 : Cond.instanceMethod yX6_end ∈ AL := ia_A14 _ (List.mem_of_getElem? (i := 36) rfl)
theorem aw_597 : Cond.selects RX6 yX6_end yX6_end ∈ AL := ia_A14 _ (List.mem_of_getElem? (i := 37) rfl)
theorem aw_598 : Cond.code yX6_end cX6_end 2 none ∈ AL := ia_A14 _ (List.mem_of_getElem? (i := 38) rfl)
theorem aw_599 : Cond.classLink RL 29 "java/lang/IndexOutOfBoundsException" ∈ AL := ia_A14 _ (List.mem_of_getElem? (i := 39) rfl)
theorem aw_600 : Cond.methodLink RL 25 yX6_answer ∈ AL := ia_A15 _ (List.mem_of_getElem? (i := 0) rfl)
theorem aw_601 : Cond.instanceMethod yX6_answer ∈ AL := ia_A15 _ (List.mem_of_getElem? (i := 1) rfl)
theorem aw_602 : Cond.selects RX6 yX6_answer yX6_answer ∈ AL := ia_A15 _ (List.mem_of_getElem? (i := 2) rfl)
theorem aw_603 : Cond.code yX6_answer cX6_answer 2 (some .int) ∈ AL := ia_A15 _ (List.mem_of_getElem? (i := 3) rfl)
theorem aw_604 : Cond.methodLink RL 31 yX6_ask ∈ AL := ia_A15 _ (List.mem_of_getElem? (i := 4) rfl)
theorem aw_605 : Cond.instanceMethod yX6_ask ∈ AL := ia_A15 _ (List.mem_of_getElem? (i := 5) rfl)
theorem aw_606 : Cond.selects RX6 yX6_ask yX6_ask ∈ AL := ia_A15 _ (List.mem_of_getElem? (i := 6) rfl)
theorem aw_607 : Cond.code yX6_ask cX6_ask 9 (some .int) ∈ AL := ia_A15 _ (List.mem_of_getElem? (i := 7) rfl)
theorem aw_608 : Cond.methodLink RL 34 yX6_spoil ∈ AL := ia_A15 _ (List.mem_of_getElem? (i := 8) rfl)
theorem aw_609 : Cond.instanceMethod yX6_spoil ∈ AL := ia_A15 _ (List.mem_of_getElem? (i := 9) rfl)
theorem aw_610 : Cond.selects RX6 yX6_spoil yX6_spoil ∈ AL := ia_A15 _ (List.mem_of_getElem? (i := 10) rfl)
theorem aw_611 : Cond.code yX6_spoil cX6_spoil 3 none ∈ AL := ia_A15 _ (List.mem_of_getElem? (i := 11) rfl)
theorem aw_612 : Cond.methodLink RL 38 yX6_about ∈ AL := ia_A15 _ (List.mem_of_getElem? (i := 12) rfl)
theorem aw_613 : Cond.instanceMethod yX6_about ∈ AL := ia_A15 _ (List.mem_of_getElem? (i := 13) rfl)
theorem aw_614 : Cond.selects RX6 yX6_about yX6_about ∈ AL := ia_A15 _ (List.mem_of_getElem? (i := 14) rfl)
theorem aw_615 : Cond.code yX6_about cX6_about 4 (some .int) ∈ AL := ia_A15 _ (List.mem_of_getElem? (i := 15) rfl)
theorem aw_616 : Cond.methodLink RL 42 yX6_rest ∈ AL := ia_A15 _ (List.mem_of_getElem? (i := 16) rfl)
theorem aw_617 : Cond.instanceMethod yX6_rest ∈ AL := ia_A15 _ (List.mem_of_getElem? (i := 17) rfl)
theorem aw_618 : Cond.selects RX6 yX6_rest yX6_rest ∈ AL := ia_A15 _ (List.mem_of_getElem? (i := 18) rfl)
theorem aw_619 : Cond.code yX6_rest cX6_rest 2 (some .long) ∈ AL := ia_A15 _ (List.mem_of_getElem? (i := 19) rfl)
theorem aw_620 : Cond.methodLink RL 46 yX6_level ∈ AL := ia_A15 _ (List.mem_of_getElem? (i := 20) rfl)
theorem aw_621 : Cond.instanceMethod yX6_level ∈ AL := ia_A15 _ (List.mem_of_getElem? (i := 21) rfl)
theorem aw_622 : Cond.selects RX6 yX6_level yX6_level ∈ AL := ia_A15 _ (List.mem_of_getElem? (i := 22) rfl)
theorem aw_623 : Cond.code yX6_level cX6_level 4 (some .int) ∈ AL := ia_A15 _ (List.mem_of_getElem? (i := 23) rfl)
theorem aw_624 : Cond.methodLink RL 49 yX6_label ∈ AL := ia_A15 _ (List.mem_of_getElem? (i := 24) rfl)
theorem aw_625 : Cond.instanceMethod yX6_label ∈ AL := ia_A15 _ (List.mem_of_getElem? (i := 25) rfl)
theorem aw_626 : Cond.selects RX6 yX6_label yX6_label ∈ AL := ia_A15 _ (List.mem_of_getElem? (i := 26) rfl)
theorem aw_627 : Cond.code yX6_label cX6_label 4 (some .int) ∈ AL := ia_A15 _ (List.mem_of_getElem? (i := 27) rfl)
theorem aw_628 : Cond.methodLink RL 52 yX6_silence ∈ AL := ia_A15 _ (List.mem_of_getElem? (i := 28) rfl)
theorem aw_629 : Cond.instanceMethod yX6_silence ∈ AL := ia_A15 _ (List.mem_of_getElem? (i := 29) rfl)
theorem aw_630 : Cond.selects RX6 yX6_silence yX6_silence ∈ AL := ia_A15 _ (List.mem_of_getElem? (i := 30) rfl)
theorem aw_631 : Cond.code yX6_silence cX6_silence 5 (some .int) ∈ AL := ia_A15 _ (List.mem_of_getElem? (i := 31) rfl)
theorem aw_632 : Cond.methodLink RL 56 yX6_step ∈ AL := ia_A15 _ (List.mem_of_getElem? (i := 32) rfl)
theorem aw_633 : Cond.instanceMethod yX6_step ∈ AL := ia_A15 _ (List.mem_of_getElem? (i := 33) rfl)
theorem aw_634 : Cond.selects RX6 yX6_step yX6_step ∈ AL := ia_A15 _ (List.mem_of_getElem? (i := 34) rfl)
theorem aw_635 : Cond.code yX6_step cX6_step 3 (some .int) ∈ AL := ia_A15 _ (List.mem_of_getElem? (i := 35) rfl)
theorem aw_636 : Cond.methodLink RL 59 yX6_id ∈ AL := ia_A15 _ (List.mem_of_getElem? (i := 36) rfl)
theorem aw_637 : Cond.instanceMethod yX6_id ∈ AL := ia_A15 _ (List.mem_of_getElem? (i := 37) rfl)
theorem aw_638 : Cond.selects RX6 yX6_id yX6_id ∈ AL := ia_A15 _ (List.mem_of_getElem? (i := 38) rfl)
theorem aw_639 : Cond.code yX6_id cX6_id 2 (some .long) ∈ AL := ia_A15 _ (List.mem_of_getElem? (i := 39) rfl)
theorem aw_640 : Cond.methodLink RL 62 yX6_branch ∈ AL := ia_A16 _ (List.mem_of_getElem? (i := 0) rfl)
theorem aw_641 : Cond.instanceMethod yX6_branch ∈ AL := ia_A16 _ (List.mem_of_getElem? (i := 1) rfl)
theorem aw_642 : Cond.selects RX6 yX6_branch yX6_branch ∈ AL := ia_A16 _ (List.mem_of_getElem? (i := 2) rfl)
theorem aw_643 : Cond.code yX6_branch cX6_branch 2 (some .long) ∈ AL := ia_A16 _ (List.mem_of_getElem? (i := 3) rfl)
theorem aw_644 : Cond.classLink RL 8 RX6 ∈ AL := ia_A16 _ (List.mem_of_getElem? (i := 4) rfl)
theorem aw_645 : Cond.instantiable RX6 13 ∈ AL := ia_A16 _ (List.mem_of_getElem? (i := 5) rfl)
theorem aw_646 : Cond.classLink RL 66 RX7 ∈ AL := ia_A16 _ (List.mem_of_getElem? (i := 6) rfl)
theorem aw_647 : Cond.instantiable RX7 39 ∈ AL := ia_A16 _ (List.mem_of_getElem? (i := 7) rfl)
theorem aw_648 : Cond.constantLong RL 69 (4294967295) ∈ AL := ia_A16 _ (List.mem_of_getElem? (i := 8) rfl)
theorem aw_649 : Cond.methodLink RL 65 yX6_init ∈ AL := ia_A16 _ (List.mem_of_getElem? (i := 9) rfl)
theorem aw_650 : Cond.instanceMethod yX6_init ∈ AL := ia_A16 _ (List.mem_of_getElem? (i := 10) rfl)
theorem aw_651 : Cond.code yX6_init cX6_init 1 none ∈ AL := ia_A16 _ (List.mem_of_getElem? (i := 11) rfl)
theorem aw_652 : Cond.methodLink RL 68 yX7_init ∈ AL := ia_A16 _ (List.mem_of_getElem? (i := 12) rfl)
theorem aw_653 : Cond.instanceMethod yX7_init ∈ AL := ia_A16 _ (List.mem_of_getElem? (i := 13) rfl)
theorem aw_654 : Cond.code yX7_init cX7_init 1 none ∈ AL := ia_A16 _ (List.mem_of_getElem? (i := 14) rfl)
theorem aw_655 : Cond.methodLink RL 71 yL_lamp ∈ AL := ia_A16 _ (List.mem_of_getElem? (i := 15) rfl)
theorem aw_656 : Cond.static yL_lamp ∈ AL := ia_A16 _ (List.mem_of_getElem? (i := 16) rfl)
theorem aw_657 : Cond.initialized RL ∈ AL := ia_A16 _ (List.mem_of_getElem? (i := 17) rfl)
theorem aw_658 : Cond.methodLink RL 76 yX7_lamp ∈ AL := ia_A16 _ (List.mem_of_getElem? (i := 18) rfl)
theorem aw_659 : Cond.instanceMethod yX7_lamp ∈ AL := ia_A16 _ (List.mem_of_getElem? (i := 19) rfl)
theorem aw_660 : Cond.selects RX7 yX7_lamp yX7_lamp ∈ AL := ia_A16 _ (List.mem_of_getElem? (i := 20) rfl)
theorem aw_661 : Cond.code yX7_lamp cX7_lamp 9 (some .int) ∈ AL := ia_A16 _ (List.mem_of_getElem? (i := 21) rfl)
theorem aw_662 : Cond.methodLink RL 77 yX7_thrown ∈ AL := ia_A16 _ (List.mem_of_getElem? (i := 22) rfl)
theorem aw_663 : Cond.instanceMethod yX7_thrown ∈ AL := ia_A16 _ (List.mem_of_getElem? (i := 23) rfl)
theorem aw_664 : Cond.selects RX7 yX7_thrown yX7_thrown ∈ AL := ia_A16 _ (List.mem_of_getElem? (i := 24) rfl)
theorem aw_665 : Cond.code yX7_thrown cX7_thrown 1 (some .int) ∈ AL := ia_A16 _ (List.mem_of_getElem? (i := 25) rfl)
theorem aw_666 : Cond.methodLink RL 81 yL_feed ∈ AL := ia_A16 _ (List.mem_of_getElem? (i := 26) rfl)
theorem aw_667 : Cond.static yL_feed ∈ AL := ia_A16 _ (List.mem_of_getElem? (i := 27) rfl)
theorem aw_668 : Cond.methodLink RL 84 yX7_feed ∈ AL := ia_A16 _ (List.mem_of_getElem? (i := 28) rfl)
theorem aw_669 : Cond.instanceMethod yX7_feed ∈ AL := ia_A16 _ (List.mem_of_getElem? (i := 29) rfl)
theorem aw_670 : Cond.selects RX7 yX7_feed yX7_feed ∈ AL := ia_A16 _ (List.mem_of_getElem? (i := 30) rfl)
theorem aw_671 : Cond.code yX7_feed cX7_feed 8 (some .int) ∈ AL := ia_A16 _ (List.mem_of_getElem? (i := 31) rfl)
theorem aw_672 : Cond.methodLink RL 85 yL_end ∈ AL := ia_A16 _ (List.mem_of_getElem? (i := 32) rfl)
theorem aw_673 : Cond.static yL_end ∈ AL := ia_A16 _ (List.mem_of_getElem? (i := 33) rfl)
theorem aw_674 : Cond.methodLink RL 88 yX7_end ∈ AL := ia_A16 _ (List.mem_of_getElem? (i := 34) rfl)
theorem aw_675 : Cond.instanceMethod yX7_end ∈ AL := ia_A16 _ (List.mem_of_getElem? (i := 35) rfl)
theorem aw_676 : Cond.selects RX7 yX7_end yX7_end ∈ AL := ia_A16 _ (List.mem_of_getElem? (i := 36) rfl)
theorem aw_677 : Cond.code yX7_end cX7_end 2 none ∈ AL := ia_A16 _ (List.mem_of_getElem? (i := 37) rfl)
theorem aw_678 : Cond.methodLink RL 89 yX6_send ∈ AL := ia_A16 _ (List.mem_of_getElem? (i := 38) rfl)
theorem aw_679 : Cond.instanceMethod yX6_send ∈ AL := ia_A16 _ (List.mem_of_getElem? (i := 39) rfl)
theorem aw_680 : Cond.selects RX6 yX6_send yX6_send ∈ AL := ia_A17 _ (List.mem_of_getElem? (i := 0) rfl)
theorem aw_681 : Cond.code yX6_send cX6_send 1 (some .int) ∈ AL := ia_A17 _ (List.mem_of_getElem? (i := 1) rfl)
theorem aw_682 : Cond.methodLink RL 92 yX7_send ∈ AL := ia_A17 _ (List.mem_of_getElem? (i := 2) rfl)
theorem aw_683 : Cond.instanceMethod yX7_send ∈ AL := ia_A17 _ (List.mem_of_getElem? (i := 3) rfl)
theorem aw_684 : Cond.selects RX7 yX7_send yX7_send ∈ AL := ia_A17 _ (List.mem_of_getElem? (i := 4) rfl)
theorem aw_685 : Cond.code yX7_send cX7_send 2 (some .int) ∈ AL := ia_A17 _ (List.mem_of_getElem? (i := 5) rfl)
theorem aw_686 : Cond.methodLink RL 93 yL_answer ∈ AL := ia_A17 _ (List.mem_of_getElem? (i := 6) rfl)
theorem aw_687 : Cond.static yL_answer ∈ AL := ia_A17 _ (List.mem_of_getElem? (i := 7) rfl)
theorem aw_688 : Cond.methodLink RL 96 yX7_answer ∈ AL := ia_A17 _ (List.mem_of_getElem? (i := 8) rfl)
theorem aw_689 : Cond.instanceMethod yX7_answer ∈ AL := ia_A17 _ (List.mem_of_getElem? (i := 9) rfl)
theorem aw_690 : Cond.selects RX7 yX7_answer yX7_answer ∈ AL := ia_A17 _ (List.mem_of_getElem? (i := 10) rfl)
theorem aw_691 : Cond.code yX7_answer cX7_answer 2 (some .int) ∈ AL := ia_A17 _ (List.mem_of_getElem? (i := 11) rfl)
theorem aw_692 : Cond.methodLink RL 97 yL_ask ∈ AL := ia_A17 _ (List.mem_of_getElem? (i := 12) rfl)
theorem aw_693 : Cond.static yL_ask ∈ AL := ia_A17 _ (List.mem_of_getElem? (i := 13) rfl)
theorem aw_694 : Cond.methodLink RL 99 yX7_ask ∈ AL := ia_A17 _ (List.mem_of_getElem? (i := 14) rfl)
theorem aw_695 : Cond.instanceMethod yX7_ask ∈ AL := ia_A17 _ (List.mem_of_getElem? (i := 15) rfl)
theorem aw_696 : Cond.selects RX7 yX7_ask yX7_ask ∈ AL := ia_A17 _ (List.mem_of_getElem? (i := 16) rfl)
theorem aw_697 : Cond.code yX7_ask cX7_ask 8 (some .int) ∈ AL := ia_A17 _ (List.mem_of_getElem? (i := 17) rfl)
theorem aw_698 : Cond.methodLink RL 100 yL_spoil ∈ AL := ia_A17 _ (List.mem_of_getElem? (i := 18) rfl)
theorem aw_699 : Cond.static yL_spoil ∈ AL := ia_A17 _ (List.mem_of_getElem? (i := 19) rfl)
theorem aw_700 : Cond.methodLink RL 103 yX7_spoil ∈ AL := ia_A17 _ (List.mem_of_getElem? (i := 20) rfl)
theorem aw_701 : Cond.instanceMethod yX7_spoil ∈ AL := ia_A17 _ (List.mem_of_getElem? (i := 21) rfl)
theorem aw_702 : Cond.selects RX7 yX7_spoil yX7_spoil ∈ AL := ia_A17 _ (List.mem_of_getElem? (i := 22) rfl)
theorem aw_703 : Cond.code yX7_spoil cX7_spoil 4 none ∈ AL := ia_A17 _ (List.mem_of_getElem? (i := 23) rfl)
theorem aw_704 : Cond.methodLink RL 104 yX6_frames ∈ AL := ia_A17 _ (List.mem_of_getElem? (i := 24) rfl)
theorem aw_705 : Cond.instanceMethod yX6_frames ∈ AL := ia_A17 _ (List.mem_of_getElem? (i := 25) rfl)
theorem aw_706 : Cond.selects RX6 yX6_frames yX6_frames ∈ AL := ia_A17 _ (List.mem_of_getElem? (i := 26) rfl)
theorem aw_707 : Cond.code yX6_frames cX6_frames 1 (some .int) ∈ AL := ia_A17 _ (List.mem_of_getElem? (i := 27) rfl)
theorem aw_708 : Cond.methodLink RL 107 yX7_frames ∈ AL := ia_A17 _ (List.mem_of_getElem? (i := 28) rfl)
theorem aw_709 : Cond.instanceMethod yX7_frames ∈ AL := ia_A17 _ (List.mem_of_getElem? (i := 29) rfl)
theorem aw_710 : Cond.selects RX7 yX7_frames yX7_frames ∈ AL := ia_A17 _ (List.mem_of_getElem? (i := 30) rfl)
theorem aw_711 : Cond.code yX7_frames cX7_frames 1 (some .int) ∈ AL := ia_A17 _ (List.mem_of_getElem? (i := 31) rfl)
theorem aw_712 : Cond.methodLink RL 108 yL_about ∈ AL := ia_A17 _ (List.mem_of_getElem? (i := 32) rfl)
theorem aw_713 : Cond.static yL_about ∈ AL := ia_A17 _ (List.mem_of_getElem? (i := 33) rfl)
theorem aw_714 : Cond.methodLink RL 111 yX7_about ∈ AL := ia_A17 _ (List.mem_of_getElem? (i := 34) rfl)
theorem aw_715 : Cond.instanceMethod yX7_about ∈ AL := ia_A17 _ (List.mem_of_getElem? (i := 35) rfl)
theorem aw_716 : Cond.selects RX7 yX7_about yX7_about ∈ AL := ia_A17 _ (List.mem_of_getElem? (i := 36) rfl)
theorem aw_717 : Cond.code yX7_about cX7_about 3 (some .int) ∈ AL := ia_A17 _ (List.mem_of_getElem? (i := 37) rfl)
theorem aw_718 : Cond.methodLink RL 112 yL_rest ∈ AL := ia_A17 _ (List.mem_of_getElem? (i := 38) rfl)
theorem aw_719 : Cond.static yL_rest ∈ AL := ia_A17 _ (List.mem_of_getElem? (i := 39) rfl)
theorem aw_720 : Cond.methodLink RL 114 yX7_rest ∈ AL := ia_A18 _ (List.mem_of_getElem? (i := 0) rfl)
theorem aw_721 : Cond.instanceMethod yX7_rest ∈ AL := ia_A18 _ (List.mem_of_getElem? (i := 1) rfl)
theorem aw_722 : Cond.selects RX7 yX7_rest yX7_rest ∈ AL := ia_A18 _ (List.mem_of_getElem? (i := 2) rfl)
theorem aw_723 : Cond.code yX7_rest cX7_rest 2 (some .long) ∈ AL := ia_A18 _ (List.mem_of_getElem? (i := 3) rfl)
theorem aw_724 : Cond.methodLink RL 115 yL_level ∈ AL := ia_A18 _ (List.mem_of_getElem? (i := 4) rfl)
theorem aw_725 : Cond.static yL_level ∈ AL := ia_A18 _ (List.mem_of_getElem? (i := 5) rfl)
theorem aw_726 : Cond.methodLink RL 117 yX7_level ∈ AL := ia_A18 _ (List.mem_of_getElem? (i := 6) rfl)
theorem aw_727 : Cond.instanceMethod yX7_level ∈ AL := ia_A18 _ (List.mem_of_getElem? (i := 7) rfl)
theorem aw_728 : Cond.selects RX7 yX7_level yX7_level ∈ AL := ia_A18 _ (List.mem_of_getElem? (i := 8) rfl)
theorem aw_729 : Cond.code yX7_level cX7_level 3 (some .int) ∈ AL := ia_A18 _ (List.mem_of_getElem? (i := 9) rfl)
theorem aw_730 : Cond.methodLink RL 118 yL_label ∈ AL := ia_A18 _ (List.mem_of_getElem? (i := 10) rfl)
theorem aw_731 : Cond.static yL_label ∈ AL := ia_A18 _ (List.mem_of_getElem? (i := 11) rfl)
theorem aw_732 : Cond.methodLink RL 120 yX7_label ∈ AL := ia_A18 _ (List.mem_of_getElem? (i := 12) rfl)
theorem aw_733 : Cond.instanceMethod yX7_label ∈ AL := ia_A18 _ (List.mem_of_getElem? (i := 13) rfl)
theorem aw_734 : Cond.selects RX7 yX7_label yX7_label ∈ AL := ia_A18 _ (List.mem_of_getElem? (i := 14) rfl)
theorem aw_735 : Cond.code yX7_label cX7_label 3 (some .int) ∈ AL := ia_A18 _ (List.mem_of_getElem? (i := 15) rfl)
theorem aw_736 : Cond.methodLink RL 121 yL_silence ∈ AL := ia_A18 _ (List.mem_of_getElem? (i := 16) rfl)
theorem aw_737 : Cond.static yL_silence ∈ AL := ia_A18 _ (List.mem_of_getElem? (i := 17) rfl)
theorem aw_738 : Cond.methodLink RL 124 yX7_silence ∈ AL := ia_A18 _ (List.mem_of_getElem? (i := 18) rfl)
theorem aw_739 : Cond.instanceMethod yX7_silence ∈ AL := ia_A18 _ (List.mem_of_getElem? (i := 19) rfl)
theorem aw_740 : Cond.selects RX7 yX7_silence yX7_silence ∈ AL := ia_A18 _ (List.mem_of_getElem? (i := 20) rfl)
theorem aw_741 : Cond.code yX7_silence cX7_silence 4 (some .int) ∈ AL := ia_A18 _ (List.mem_of_getElem? (i := 21) rfl)
theorem aw_742 : Cond.methodLink RL 125 yX6_search ∈ AL := ia_A18 _ (List.mem_of_getElem? (i := 22) rfl)
theorem aw_743 : Cond.instanceMethod yX6_search ∈ AL := ia_A18 _ (List.mem_of_getElem? (i := 23) rfl)
theorem aw_744 : Cond.selects RX6 yX6_search yX6_search ∈ AL := ia_A18 _ (List.mem_of_getElem? (i := 24) rfl)
theorem aw_745 : Cond.code yX6_search cX6_search 1 (some .int) ∈ AL := ia_A18 _ (List.mem_of_getElem? (i := 25) rfl)
theorem aw_746 : Cond.methodLink RL 128 yX7_search ∈ AL := ia_A18 _ (List.mem_of_getElem? (i := 26) rfl)
theorem aw_747 : Cond.instanceMethod yX7_search ∈ AL := ia_A18 _ (List.mem_of_getElem? (i := 27) rfl)
theorem aw_748 : Cond.selects RX7 yX7_search yX7_search ∈ AL := ia_A18 _ (List.mem_of_getElem? (i := 28) rfl)
theorem aw_749 : Cond.code yX7_search cX7_search 1 (some .int) ∈ AL := ia_A18 _ (List.mem_of_getElem? (i := 29) rfl)
theorem aw_750 : Cond.methodLink RL 129 yL_step ∈ AL := ia_A18 _ (List.mem_of_getElem? (i := 30) rfl)
theorem aw_751 : Cond.static yL_step ∈ AL := ia_A18 _ (List.mem_of_getElem? (i := 31) rfl)
theorem aw_752 : Cond.methodLink RL 131 yX7_step ∈ AL := ia_A18 _ (List.mem_of_getElem? (i := 32) rfl)
theorem aw_753 : Cond.instanceMethod yX7_step ∈ AL := ia_A18 _ (List.mem_of_getElem? (i := 33) rfl)
theorem aw_754 : Cond.selects RX7 yX7_step yX7_step ∈ AL := ia_A18 _ (List.mem_of_getElem? (i := 34) rfl)
theorem aw_755 : Cond.code yX7_step cX7_step 3 (some .int) ∈ AL := ia_A18 _ (List.mem_of_getElem? (i := 35) rfl)
theorem aw_756 : Cond.methodLink RL 132 yX6_found ∈ AL := ia_A18 _ (List.mem_of_getElem? (i := 36) rfl)
theorem aw_757 : Cond.instanceMethod yX6_found ∈ AL := ia_A18 _ (List.mem_of_getElem? (i := 37) rfl)
theorem aw_758 : Cond.selects RX6 yX6_found yX6_found ∈ AL := ia_A18 _ (List.mem_of_getElem? (i := 38) rfl)
theorem aw_759 : Cond.code yX6_found cX6_found 1 (some .int) ∈ AL := ia_A18 _ (List.mem_of_getElem? (i := 39) rfl)
theorem aw_760 : Cond.methodLink RL 135 yX7_found ∈ AL := ia_A19 _ (List.mem_of_getElem? (i := 0) rfl)
theorem aw_761 : Cond.instanceMethod yX7_found ∈ AL := ia_A19 _ (List.mem_of_getElem? (i := 1) rfl)
theorem aw_762 : Cond.selects RX7 yX7_found yX7_found ∈ AL := ia_A19 _ (List.mem_of_getElem? (i := 2) rfl)
theorem aw_763 : Cond.code yX7_found cX7_found 1 (some .int) ∈ AL := ia_A19 _ (List.mem_of_getElem? (i := 3) rfl)
theorem aw_764 : Cond.methodLink RL 136 yL_id ∈ AL := ia_A19 _ (List.mem_of_getElem? (i := 4) rfl)
theorem aw_765 : Cond.static yL_id ∈ AL := ia_A19 _ (List.mem_of_getElem? (i := 5) rfl)
theorem aw_766 : Cond.methodLink RL 138 yX7_id ∈ AL := ia_A19 _ (List.mem_of_getElem? (i := 6) rfl)
theorem aw_767 : Cond.instanceMethod yX7_id ∈ AL := ia_A19 _ (List.mem_of_getElem? (i := 7) rfl)
theorem aw_768 : Cond.selects RX7 yX7_id yX7_id ∈ AL := ia_A19 _ (List.mem_of_getElem? (i := 8) rfl)
theorem aw_769 : Cond.code yX7_id cX7_id 2 (some .long) ∈ AL := ia_A19 _ (List.mem_of_getElem? (i := 9) rfl)
theorem aw_770 : Cond.methodLink RL 139 yL_branch ∈ AL := ia_A19 _ (List.mem_of_getElem? (i := 10) rfl)
theorem aw_771 : Cond.static yL_branch ∈ AL := ia_A19 _ (List.mem_of_getElem? (i := 11) rfl)
theorem aw_772 : Cond.methodLink RL 141 yX7_branch ∈ AL := ia_A19 _ (List.mem_of_getElem? (i := 12) rfl)
theorem aw_773 : Cond.instanceMethod yX7_branch ∈ AL := ia_A19 _ (List.mem_of_getElem? (i := 13) rfl)
theorem aw_774 : Cond.selects RX7 yX7_branch yX7_branch ∈ AL := ia_A19 _ (List.mem_of_getElem? (i := 14) rfl)
theorem aw_775 : Cond.code yX7_branch cX7_branch 2 (some .long) ∈ AL := ia_A19 _ (List.mem_of_getElem? (i := 15) rfl)
theorem aw_776 : Cond.code yJ9_min_7cf53 cJ9_min_7cf53 2 (some .int) ∈ AL := ia_A19 _ (List.mem_of_getElem? (i := 16) rfl)
def zs_X3_cut : List Cond := .code yX3_cut cX3_cut 2 none :: AL
theorem gz_X3_cut : GoodIn AL zs_X3_cut := gz aw_7
def zs_X3_put : List Cond := .code yX3_put cX3_put 2 none :: AL
theorem gz_X3_put : GoodIn AL zs_X3_put := gz aw_11
def zs_X3_sum : List Cond := .code yX3_sum cX3_sum 5 (some .int) :: AL
theorem gz_X3_sum : GoodIn AL zs_X3_sum := gz aw_15
def zs_X3_size : List Cond := .code yX3_size cX3_size 1 (some .int) :: AL
theorem gz_X3_size : GoodIn AL zs_X3_size := gz aw_21
def zs_X3_at : List Cond := .code yX3_at cX3_at 2 (some .int) :: AL
theorem gz_X3_at : GoodIn AL zs_X3_at := gz aw_25
def zs_X3_init : List Cond := .code yX3_init cX3_init 2 none :: AL
theorem gz_X3_init : GoodIn AL zs_X3_init := gz aw_45
def zs_X6_makerOf : List Cond := .code yX6_makerOf cX6_makerOf 2 (some .int) :: AL
theorem gz_X6_makerOf : GoodIn AL zs_X6_makerOf := gz aw_53
def zs_X1_footprint : List Cond := .code yX1_footprint cX1_footprint 1 (some .int) :: AL
theorem gz_X1_footprint : GoodIn AL zs_X1_footprint := gz aw_58
def zs_X6_flag : List Cond := .code yX6_flag cX6_flag 1 (some .int) :: AL
theorem gz_X6_flag : GoodIn AL zs_X6_flag := gz aw_60
def zs_X1_isDark : List Cond := .code yX1_isDark cX1_isDark 2 (some .boolean) :: AL
theorem gz_X1_isDark : GoodIn AL zs_X1_isDark := gz aw_64
def zs_X3_copyFrom : List Cond := .code yX3_copyFrom cX3_copyFrom 3 none :: AL
theorem gz_X3_copyFrom : GoodIn AL zs_X3_copyFrom := gz aw_70
def zs_X6_restOf : List Cond := .code yX6_restOf cX6_restOf 2 (some .long) :: AL
theorem gz_X6_restOf : GoodIn AL zs_X6_restOf := gz aw_80
def zs_X3_putNumber : List Cond := .code yX3_putNumber cX3_putNumber 5 none :: AL
theorem gz_X3_putNumber : GoodIn AL zs_X3_putNumber := gz aw_98
def zs_X3_number : List Cond := .code yX3_number cX3_number 6 (some .long) :: AL
theorem gz_X3_number : GoodIn AL zs_X3_number := gz aw_104
def zs_X0_write : List Cond := .code yX0_write cX0_write 5 none :: AL
theorem gz_X0_write : GoodIn AL zs_X0_write := gz aw_108
def zs_X2_isCall : List Cond := .code yX2_isCall cX2_isCall 1 (some .boolean) :: AL
theorem gz_X2_isCall : GoodIn AL zs_X2_isCall := gz aw_113
def zs_X2_beginReply : List Cond := .code yX2_beginReply cX2_beginReply 4 none :: AL
theorem gz_X2_beginReply : GoodIn AL zs_X2_beginReply := gz aw_117
def zs_X2_writeTo : List Cond := .code yX2_writeTo cX2_writeTo 4 none :: AL
theorem gz_X2_writeTo : GoodIn AL zs_X2_writeTo := gz aw_122
def zs_X1_isKnown : List Cond := .code yX1_isKnown cX1_isKnown 2 (some .boolean) :: AL
theorem gz_X1_isKnown : GoodIn AL zs_X1_isKnown := gz aw_126
def zs_X6_fits : List Cond := .code yX6_fits cX6_fits 2 (some .boolean) :: AL
theorem gz_X6_fits : GoodIn AL zs_X6_fits := gz aw_128
def zs_X1_formRefusal : List Cond := .code yX1_formRefusal cX1_formRefusal 4 (some .int) :: AL
theorem gz_X1_formRefusal : GoodIn AL zs_X1_formRefusal := gz aw_133
def zs_X1_valueRefusal : List Cond := .code yX1_valueRefusal cX1_valueRefusal 6 (some .int) :: AL
theorem gz_X1_valueRefusal : GoodIn AL zs_X1_valueRefusal := gz aw_137
def zs_X2_refuse : List Cond := .code yX2_refuse cX2_refuse 2 none :: AL
theorem gz_X2_refuse : GoodIn AL zs_X2_refuse := gz aw_141
def zs_X1_obey : List Cond := .code yX1_obey cX1_obey 7 none :: AL
theorem gz_X1_obey : GoodIn AL zs_X1_obey := gz aw_145
def zs_X1_tell : List Cond := .code yX1_tell cX1_tell 6 none :: AL
theorem gz_X1_tell : GoodIn AL zs_X1_tell := gz aw_149
def zs_X1_speaksToSearch : List Cond := .code yX1_speaksToSearch cX1_speaksToSearch 5 (some .boolean) :: AL
theorem gz_X1_speaksToSearch : GoodIn AL zs_X1_speaksToSearch := gz aw_153
def zs_X1_speaksToOrder : List Cond := .code yX1_speaksToOrder cX1_speaksToOrder 8 (some .boolean) :: AL
theorem gz_X1_speaksToOrder : GoodIn AL zs_X1_speaksToOrder := gz aw_157
def zs_X4_pile : List Cond := .code yX4_pile cX4_pile 5 none :: AL
theorem gz_X4_pile : GoodIn AL zs_X4_pile := gz aw_176
def zs_X4_hasFound : List Cond := .code yX4_hasFound cX4_hasFound 4 (some .boolean) :: AL
theorem gz_X4_hasFound : GoodIn AL zs_X4_hasFound := gz aw_181
def zs_X5_dropFirst : List Cond := .code yX5_dropFirst cX5_dropFirst 2 none :: AL
theorem gz_X5_dropFirst : GoodIn AL zs_X5_dropFirst := gz aw_190
def zs_X3_flip : List Cond := .code yX3_flip cX3_flip 3 none :: AL
theorem gz_X3_flip : GoodIn AL zs_X3_flip := gz aw_194
def zs_X2_init : List Cond := .code yX2_init cX2_init 1 none :: AL
theorem gz_X2_init : GoodIn AL zs_X2_init := gz aw_216
def zs_X5_init : List Cond := .code yX5_init cX5_init 1 none :: AL
theorem gz_X5_init : GoodIn AL zs_X5_init := gz aw_218
def zs_X4_init : List Cond := .code yX4_init cX4_init 1 none :: AL
theorem gz_X4_init : GoodIn AL zs_X4_init := gz aw_220
def zs_X6_joinedId : List Cond := .code yX6_joinedId cX6_joinedId 3 (some .long) :: AL
theorem gz_X6_joinedId : GoodIn AL zs_X6_joinedId := gz aw_230
def zs_X6_isThere : List Cond := .code yX6_isThere cX6_isThere 4 (some .boolean) :: AL
theorem gz_X6_isThere : GoodIn AL zs_X6_isThere := gz aw_234
def zs_X1_init : List Cond := .code yX1_init cX1_init 7 none :: AL
theorem gz_X1_init : GoodIn AL zs_X1_init := gz aw_237
def zs_X2_readFrom : List Cond := .code yX2_readFrom cX2_readFrom 4 (some .boolean) :: AL
theorem gz_X2_readFrom : GoodIn AL zs_X2_readFrom := gz aw_246
def zs_X1_ripen : List Cond := .code yX1_ripen cX1_ripen 3 none :: AL
theorem gz_X1_ripen : GoodIn AL zs_X1_ripen := gz aw_250
def zs_X1_shine : List Cond := .code yX1_shine cX1_shine 5 none :: AL
theorem gz_X1_shine : GoodIn AL zs_X1_shine := gz aw_254
def zs_X1_isMeantBy : List Cond := .code yX1_isMeantBy cX1_isMeantBy 3 (some .boolean) :: AL
theorem gz_X1_isMeantBy : GoodIn AL zs_X1_isMeantBy := gz aw_258
def zs_X1_speaksTo : List Cond := .code yX1_speaksTo cX1_speaksTo 5 (some .boolean) :: AL
theorem gz_X1_speaksTo : GoodIn AL zs_X1_speaksTo := gz aw_262
def zs_X3_join : List Cond := .code yX3_join cX3_join 3 none :: AL
theorem gz_X3_join : GoodIn AL zs_X3_join := gz aw_266
def zs_X5_applyTo : List Cond := .code yX5_applyTo cX5_applyTo 3 none :: AL
theorem gz_X5_applyTo : GoodIn AL zs_X5_applyTo := gz aw_270
def zs_X6_runFrame : List Cond := .code yX6_runFrame cX6_runFrame 5 none :: AL
theorem gz_X6_runFrame : GoodIn AL zs_X6_runFrame := gz aw_275
def zs_X6_beginQuestion : List Cond := .code yX6_beginQuestion cX6_beginQuestion 5 none :: AL
theorem gz_X6_beginQuestion : GoodIn AL zs_X6_beginQuestion := gz aw_284
def zs_X6_isReplyFrom : List Cond := .code yX6_isReplyFrom cX6_isReplyFrom 3 (some .boolean) :: AL
theorem gz_X6_isReplyFrom : GoodIn AL zs_X6_isReplyFrom := gz aw_289
def zs_X5_add : List Cond := .code yX5_add cX5_add 3 none :: AL
theorem gz_X5_add : GoodIn AL zs_X5_add := gz aw_293
def zs_X6_lampAt : List Cond := .code yX6_lampAt cX6_lampAt 2 (some (.object "LampLine$Lamp")) :: AL
theorem gz_X6_lampAt : GoodIn AL zs_X6_lampAt := gz aw_297
def zs_X1_fact : List Cond := .code yX1_fact cX1_fact 3 (some .int) :: AL
theorem gz_X1_fact : GoodIn AL zs_X1_fact := gz aw_301
def zs_X1_levelAt : List Cond := .code yX1_levelAt cX1_levelAt 2 (some .int) :: AL
theorem gz_X1_levelAt : GoodIn AL zs_X1_levelAt := gz aw_307
def zs_X4_begin : List Cond := .code yX4_begin cX4_begin 1 none :: AL
theorem gz_X4_begin : GoodIn AL zs_X4_begin := gz aw_313
def zs_X6_writeSearch : List Cond := .code yX6_writeSearch cX6_writeSearch 4 none :: AL
theorem gz_X6_writeSearch : GoodIn AL zs_X6_writeSearch := gz aw_317
def zs_X4_keepFound : List Cond := .code yX4_keepFound cX4_keepFound 3 none :: AL
theorem gz_X4_keepFound : GoodIn AL zs_X4_keepFound := gz aw_321
def zs_X4_latestLow : List Cond := .code yX4_latestLow cX4_latestLow 1 (some .long) :: AL
theorem gz_X4_latestLow : GoodIn AL zs_X4_latestLow := gz aw_325
def zs_X4_latestHigh : List Cond := .code yX4_latestHigh cX4_latestHigh 1 (some .long) :: AL
theorem gz_X4_latestHigh : GoodIn AL zs_X4_latestHigh := gz aw_329
def zs_X4_takeLatest : List Cond := .code yX4_takeLatest cX4_takeLatest 1 none :: AL
theorem gz_X4_takeLatest : GoodIn AL zs_X4_takeLatest := gz aw_333
def zs_X6_tryId : List Cond := .code yX6_tryId cX6_tryId 3 (some .int) :: AL
theorem gz_X6_tryId : GoodIn AL zs_X6_tryId := gz aw_337
def zs_X6_writeBranchSearch : List Cond := .code yX6_writeBranchSearch cX6_writeBranchSearch 5 none :: AL
theorem gz_X6_writeBranchSearch : GoodIn AL zs_X6_writeBranchSearch := gz aw_342
def zs_X0_read : List Cond := .code yX0_read cX0_read 6 (some .long) :: AL
theorem gz_X0_read : GoodIn AL zs_X0_read := gz aw_345
def zs_X6_takeStep : List Cond := .code yX6_takeStep cX6_takeStep 10 none :: AL
theorem gz_X6_takeStep : GoodIn AL zs_X6_takeStep := gz aw_350
def zs_X7_idOf : List Cond := .code yX7_idOf cX7_idOf 3 (some .long) :: AL
theorem gz_X7_idOf : GoodIn AL zs_X7_idOf := gz aw_383
def zs_X7_in : List Cond := .code yX7_in cX7_in 6 (some .boolean) :: AL
theorem gz_X7_in : GoodIn AL zs_X7_in := gz aw_392
def zs_X7_goes : List Cond := .code yX7_goes cX7_goes 2 (some .boolean) :: AL
theorem gz_X7_goes : GoodIn AL zs_X7_goes := gz aw_397
def zs_X7_at : List Cond := .code yX7_at cX7_at 2 (some .int) :: AL
theorem gz_X7_at : GoodIn AL zs_X7_at := gz aw_401
def zs_X7_footprint : List Cond := .code yX7_footprint cX7_footprint 2 (some .int) :: AL
theorem gz_X7_footprint : GoodIn AL zs_X7_footprint := gz aw_408
def zs_X7_two : List Cond := .code yX7_two cX7_two 2 (some .int) :: AL
theorem gz_X7_two : GoodIn AL zs_X7_two := gz aw_413
def zs_X7_put : List Cond := .code yX7_put cX7_put 2 none :: AL
theorem gz_X7_put : GoodIn AL zs_X7_put := gz aw_418
def zs_X7_ownId : List Cond := .code yX7_ownId cX7_ownId 2 (some .long) :: AL
theorem gz_X7_ownId : GoodIn AL zs_X7_ownId := gz aw_422
def zs_X7_putId : List Cond := .code yX7_putId cX7_putId 4 none :: AL
theorem gz_X7_putId : GoodIn AL zs_X7_putId := gz aw_426
def zs_X7_putTwo : List Cond := .code yX7_putTwo cX7_putTwo 2 none :: AL
theorem gz_X7_putTwo : GoodIn AL zs_X7_putTwo := gz aw_430
def zs_X7_waiting : List Cond := .code yX7_waiting cX7_waiting 4 (some .int) :: AL
theorem gz_X7_waiting : GoodIn AL zs_X7_waiting := gz aw_434
def zs_X7_six : List Cond := .code yX7_six cX7_six 5 (some .long) :: AL
theorem gz_X7_six : GoodIn AL zs_X7_six := gz aw_438
def zs_X7_show : List Cond := .code yX7_show cX7_show 6 none :: AL
theorem gz_X7_show : GoodIn AL zs_X7_show := gz aw_442
def zs_X7_begin : List Cond := .code yX7_begin cX7_begin 6 none :: AL
theorem gz_X7_begin : GoodIn AL zs_X7_begin := gz aw_446
def zs_X7_finish : List Cond := .code yX7_finish cX7_finish 4 none :: AL
theorem gz_X7_finish : GoodIn AL zs_X7_finish := gz aw_450
def zs_X7_refuse : List Cond := .code yX7_refuse cX7_refuse 4 none :: AL
theorem gz_X7_refuse : GoodIn AL zs_X7_refuse := gz aw_454
def zs_X7_isMatter : List Cond := .code yX7_isMatter cX7_isMatter 1 (some .boolean) :: AL
theorem gz_X7_isMatter : GoodIn AL zs_X7_isMatter := gz aw_457
def zs_X7_getWaiting : List Cond := .code yX7_getWaiting cX7_getWaiting 6 none :: AL
theorem gz_X7_getWaiting : GoodIn AL zs_X7_getWaiting := gz aw_461
def zs_X7_tell : List Cond := .code yX7_tell cX7_tell 5 none :: AL
theorem gz_X7_tell : GoodIn AL zs_X7_tell := gz aw_465
def zs_X7_mayBe : List Cond := .code yX7_mayBe cX7_mayBe 6 (some .boolean) :: AL
theorem gz_X7_mayBe : GoodIn AL zs_X7_mayBe := gz aw_472
def zs_X7_setLabel : List Cond := .code yX7_setLabel cX7_setLabel 6 none :: AL
theorem gz_X7_setLabel : GoodIn AL zs_X7_setLabel := gz aw_476
def zs_X7_hearSearch : List Cond := .code yX7_hearSearch cX7_hearSearch 7 none :: AL
theorem gz_X7_hearSearch : GoodIn AL zs_X7_hearSearch := gz aw_480
def zs_X7_get : List Cond := .code yX7_get cX7_get 3 none :: AL
theorem gz_X7_get : GoodIn AL zs_X7_get := gz aw_484
def zs_X7_set : List Cond := .code yX7_set cX7_set 6 none :: AL
theorem gz_X7_set : GoodIn AL zs_X7_set := gz aw_488
def zs_X7_doDue : List Cond := .code yX7_doDue cX7_doDue 5 none :: AL
theorem gz_X7_doDue : GoodIn AL zs_X7_doDue := gz aw_496
def zs_X7_takeLevels : List Cond := .code yX7_takeLevels cX7_takeLevels 3 none :: AL
theorem gz_X7_takeLevels : GoodIn AL zs_X7_takeLevels := gz aw_500
def zs_X7_isPacket : List Cond := .code yX7_isPacket cX7_isPacket 3 (some .boolean) :: AL
theorem gz_X7_isPacket : GoodIn AL zs_X7_isPacket := gz aw_504
def zs_X7_hear : List Cond := .code yX7_hear cX7_hear 3 none :: AL
theorem gz_X7_hear : GoodIn AL zs_X7_hear := gz aw_508
def zs_X7_fall : List Cond := .code yX7_fall cX7_fall 2 none :: AL
theorem gz_X7_fall : GoodIn AL zs_X7_fall := gz aw_512
def zs_X7_look : List Cond := .code yX7_look cX7_look 6 none :: AL
theorem gz_X7_look : GoodIn AL zs_X7_look := gz aw_516
def zs_X7_write : List Cond := .code yX7_write cX7_write 2 none :: AL
theorem gz_X7_write : GoodIn AL zs_X7_write := gz aw_520
def zs_X7_writeSix : List Cond := .code yX7_writeSix cX7_writeSix 4 none :: AL
theorem gz_X7_writeSix : GoodIn AL zs_X7_writeSix := gz aw_525
def zs_X7_heard : List Cond := .code yX7_heard cX7_heard 2 (some .int) :: AL
theorem gz_X7_heard : GoodIn AL zs_X7_heard := gz aw_529
def zs_X7_heardSix : List Cond := .code yX7_heardSix cX7_heardSix 5 (some .long) :: AL
theorem gz_X7_heardSix : GoodIn AL zs_X7_heardSix := gz aw_533
def zs_X7_beginPacket : List Cond := .code yX7_beginPacket cX7_beginPacket 6 none :: AL
theorem gz_X7_beginPacket : GoodIn AL zs_X7_beginPacket := gz aw_538
def zs_X7_sendOff : List Cond := .code yX7_sendOff cX7_sendOff 3 none :: AL
theorem gz_X7_sendOff : GoodIn AL zs_X7_sendOff := gz aw_542
def zs_X7_isReply : List Cond := .code yX7_isReply cX7_isReply 5 (some .boolean) :: AL
theorem gz_X7_isReply : GoodIn AL zs_X7_isReply := gz aw_546
def zs_X7_isLamp : List Cond := .code yX7_isLamp cX7_isLamp 2 (some .boolean) :: AL
theorem gz_X7_isLamp : GoodIn AL zs_X7_isLamp := gz aw_552
def zs_X7_isFound : List Cond := .code yX7_isFound cX7_isFound 5 (some .boolean) :: AL
theorem gz_X7_isFound : GoodIn AL zs_X7_isFound := gz aw_562
def zs_X7_isId : List Cond := .code yX7_isId cX7_isId 2 (some .boolean) :: AL
theorem gz_X7_isId : GoodIn AL zs_X7_isId := gz aw_567
def zs_X7_tried : List Cond := .code yX7_tried cX7_tried 3 (some .int) :: AL
theorem gz_X7_tried : GoodIn AL zs_X7_tried := gz aw_571
def zs_X7_push : List Cond := .code yX7_push cX7_push 5 none :: AL
theorem gz_X7_push : GoodIn AL zs_X7_push := gz aw_575
def zs_X7_shown : List Cond := .code yX7_shown cX7_shown 8 (some .long) :: AL
theorem gz_X7_shown : GoodIn AL zs_X7_shown := gz aw_579
def zs_X7_stepOnce : List Cond := .code yX7_stepOnce cX7_stepOnce 9 none :: AL
theorem gz_X7_stepOnce : GoodIn AL zs_X7_stepOnce := gz aw_584
def zs_X6_lamp : List Cond := .code yX6_lamp cX6_lamp 9 (some .int) :: AL
theorem gz_X6_lamp : GoodIn AL zs_X6_lamp := gz aw_590
def zs_X6_feed : List Cond := .code yX6_feed cX6_feed 6 (some .int) :: AL
theorem gz_X6_feed : GoodIn AL zs_X6_feed := gz aw_594
def zs_X6_end : List Cond := .code yX6_end cX6_end 2 none :: AL
theorem gz_X6_end : GoodIn AL zs_X6_end := gz aw_598
def zs_X6_answer : List Cond := .code yX6_answer cX6_answer 2 (some .int) :: AL
theorem gz_X6_answer : GoodIn AL zs_X6_answer := gz aw_603
def zs_X6_ask : List Cond := .code yX6_ask cX6_ask 9 (some .int) :: AL
theorem gz_X6_ask : GoodIn AL zs_X6_ask := gz aw_607
def zs_X6_spoil : List Cond := .code yX6_spoil cX6_spoil 3 none :: AL
theorem gz_X6_spoil : GoodIn AL zs_X6_spoil := gz aw_611
def zs_X6_about : List Cond := .code yX6_about cX6_about 4 (some .int) :: AL
theorem gz_X6_about : GoodIn AL zs_X6_about := gz aw_615
def zs_X6_rest : List Cond := .code yX6_rest cX6_rest 2 (some .long) :: AL
theorem gz_X6_rest : GoodIn AL zs_X6_rest := gz aw_619
def zs_X6_level : List Cond := .code yX6_level cX6_level 4 (some .int) :: AL
theorem gz_X6_level : GoodIn AL zs_X6_level := gz aw_623
def zs_X6_label : List Cond := .code yX6_label cX6_label 4 (some .int) :: AL
theorem gz_X6_label : GoodIn AL zs_X6_label := gz aw_627
def zs_X6_silence : List Cond := .code yX6_silence cX6_silence 5 (some .int) :: AL
theorem gz_X6_silence : GoodIn AL zs_X6_silence := gz aw_631
def zs_X6_step : List Cond := .code yX6_step cX6_step 3 (some .int) :: AL
theorem gz_X6_step : GoodIn AL zs_X6_step := gz aw_635
def zs_X6_id : List Cond := .code yX6_id cX6_id 2 (some .long) :: AL
theorem gz_X6_id : GoodIn AL zs_X6_id := gz aw_639
def zs_X6_branch : List Cond := .code yX6_branch cX6_branch 2 (some .long) :: AL
theorem gz_X6_branch : GoodIn AL zs_X6_branch := gz aw_643
def zs_X6_init : List Cond := .code yX6_init cX6_init 1 none :: AL
theorem gz_X6_init : GoodIn AL zs_X6_init := gz aw_651
def zs_X7_init : List Cond := .code yX7_init cX7_init 1 none :: AL
theorem gz_X7_init : GoodIn AL zs_X7_init := gz aw_654
def zs_X7_lamp : List Cond := .code yX7_lamp cX7_lamp 9 (some .int) :: AL
theorem gz_X7_lamp : GoodIn AL zs_X7_lamp := gz aw_661
def zs_X7_thrown : List Cond := .code yX7_thrown cX7_thrown 1 (some .int) :: AL
theorem gz_X7_thrown : GoodIn AL zs_X7_thrown := gz aw_665
def zs_X7_feed : List Cond := .code yX7_feed cX7_feed 8 (some .int) :: AL
theorem gz_X7_feed : GoodIn AL zs_X7_feed := gz aw_671
def zs_X7_end : List Cond := .code yX7_end cX7_end 2 none :: AL
theorem gz_X7_end : GoodIn AL zs_X7_end := gz aw_677
def zs_X6_send : List Cond := .code yX6_send cX6_send 1 (some .int) :: AL
theorem gz_X6_send : GoodIn AL zs_X6_send := gz aw_681
def zs_X7_send : List Cond := .code yX7_send cX7_send 2 (some .int) :: AL
theorem gz_X7_send : GoodIn AL zs_X7_send := gz aw_685
def zs_X7_answer : List Cond := .code yX7_answer cX7_answer 2 (some .int) :: AL
theorem gz_X7_answer : GoodIn AL zs_X7_answer := gz aw_691
def zs_X7_ask : List Cond := .code yX7_ask cX7_ask 8 (some .int) :: AL
theorem gz_X7_ask : GoodIn AL zs_X7_ask := gz aw_697
def zs_X7_spoil : List Cond := .code yX7_spoil cX7_spoil 4 none :: AL
theorem gz_X7_spoil : GoodIn AL zs_X7_spoil := gz aw_703
def zs_X6_frames : List Cond := .code yX6_frames cX6_frames 1 (some .int) :: AL
theorem gz_X6_frames : GoodIn AL zs_X6_frames := gz aw_707
def zs_X7_frames : List Cond := .code yX7_frames cX7_frames 1 (some .int) :: AL
theorem gz_X7_frames : GoodIn AL zs_X7_frames := gz aw_711
def zs_X7_about : List Cond := .code yX7_about cX7_about 3 (some .int) :: AL
theorem gz_X7_about : GoodIn AL zs_X7_about := gz aw_717
def zs_X7_rest : List Cond := .code yX7_rest cX7_rest 2 (some .long) :: AL
theorem gz_X7_rest : GoodIn AL zs_X7_rest := gz aw_723
def zs_X7_level : List Cond := .code yX7_level cX7_level 3 (some .int) :: AL
theorem gz_X7_level : GoodIn AL zs_X7_level := gz aw_729
def zs_X7_label : List Cond := .code yX7_label cX7_label 3 (some .int) :: AL
theorem gz_X7_label : GoodIn AL zs_X7_label := gz aw_735
def zs_X7_silence : List Cond := .code yX7_silence cX7_silence 4 (some .int) :: AL
theorem gz_X7_silence : GoodIn AL zs_X7_silence := gz aw_741
def zs_X6_search : List Cond := .code yX6_search cX6_search 1 (some .int) :: AL
theorem gz_X6_search : GoodIn AL zs_X6_search := gz aw_745
def zs_X7_search : List Cond := .code yX7_search cX7_search 1 (some .int) :: AL
theorem gz_X7_search : GoodIn AL zs_X7_search := gz aw_749
def zs_X7_step : List Cond := .code yX7_step cX7_step 3 (some .int) :: AL
theorem gz_X7_step : GoodIn AL zs_X7_step := gz aw_755
def zs_X6_found : List Cond := .code yX6_found cX6_found 1 (some .int) :: AL
theorem gz_X6_found : GoodIn AL zs_X6_found := gz aw_759
def zs_X7_found : List Cond := .code yX7_found cX7_found 1 (some .int) :: AL
theorem gz_X7_found : GoodIn AL zs_X7_found := gz aw_763
def zs_X7_id : List Cond := .code yX7_id cX7_id 2 (some .long) :: AL
theorem gz_X7_id : GoodIn AL zs_X7_id := gz aw_769
def zs_X7_branch : List Cond := .code yX7_branch cX7_branch 2 (some .long) :: AL
theorem gz_X7_branch : GoodIn AL zs_X7_branch := gz aw_775
def zs_J9_min_7cf53 : List Cond := .code yJ9_min_7cf53 cJ9_min_7cf53 2 (some .int) :: AL
theorem gz_J9_min_7cf53 : GoodIn AL zs_J9_min_7cf53 := gz aw_776
end
section
/-! ===== the store: the cells of the class, of the reference and of the lamps by ROLES (fixed numbers), their ints and longs ===== -/
abbrev St : Type := (Nat → Nat → Int32) × (Nat → Nat → Int64)
/-- kinds of roles: 1 LampLine 2 Row 3 int[] 4 Packet 5 Spoils 6 Search 7 long[] 8 Lamp[] 9 LampLineModel 10 byte[] 11 boolean[] 12 Lamp 13 Row[] -/
def kd0 : List Nat := [1, 2, 3, 2, 3, 2, 3, 2, 3, 4, 2, 3, 4, 2, 3, 4, 2, 3, 5, 3, 3, 6, 7, 7, 7, 8, 7, 9,
  3, 7, 3, 3, 3, 3, 11, 11, 3, 10, 3, 3, 3, 3, 3, 3, 10, 10, 10, 10, 10, 3, 3, 7, 7, 7]
def kd1 : List Nat := [12, 3, 2, 3, 13, 11, 2, 3, 2, 3, 2, 3]
def ln0 : List Nat := [0, 0, 520, 0, 513, 0, 257, 0, 257, 0, 0, 231, 0, 0, 231, 0, 0, 231, 0, 16, 16, 0, 64, 64, 24, 24, 1, 0,
  24, 24, 24, 24, 24, 24, 24, 24, 24, 768, 24, 12288, 24, 24, 96, 96, 3072, 520, 513, 300, 300, 16, 16, 128, 128, 24]
def ln1 : List Nat := [0, 512, 0, 32, 3, 3, 0, 32, 0, 32, 0, 32]
def kd (k : Nat) : Nat := if k < 54 then kd0.getD k 0 else kd1.getD ((k - 54) % 12) 0
def ln (k : Nat) : Nat := if k < 54 then ln0.getD k 0 else ln1.getD ((k - 54) % 12) 0
/-- the cell of role k, by its kind, its ints i, its longs j; g: the array classes (0 byte 1 int 2 long 3 boolean 4 Lamp 5 Row), ad: the addresses, n: how many lamps -/
def cK (g : Nat → ClassId) (ad : Nat → Nat) (n : Nat) (k : Nat) (i : Nat → Int32) (j : Nat → Int64) (κ : Nat) : va_E := match κ with
  | 1 => .inr (5, [.ref (ad 1), .ref (ad 3), .ref (ad 5), .ref (ad 7), .ref (ad 9), .ref (ad 12), .ref (ad 15), .ref (ad 18), .ref (ad 21), .ref (ad 25), .int (i 10), .int (i 11), .int (i 12)])
  | 2 => .inr (2, [.ref (ad (k + 1)), .int (i 1)])
  | 3 => .inl (g 1, ln k, .inl i)
  | 4 => .inr (1, [.long (j 0), .long (j 1), .int (i 2), .int (i 3), .int (i 4), .int (i 5), .int (i 6), .int (i 7), .ref (ad (k + 1))])
  | 5 => .inr (4, [.ref (ad 19), .ref (ad 20), .int (i 2)])
  | 6 => .inr (3, [.ref (ad 22), .ref (ad 23), .ref (ad 24), .int (i 3), .int (i 4), .int (i 5), .int (i 6)])
  | 7 => .inl (g 2, ln k, .inr (.inl j))
  | 8 => .inl (g 4, ln k, .inr (.inr (.inr (.inr (fun q => if q < n then some (ad (54 + 12 * q)) else none)))))
  | 9 => .inr (6, [.int (i 0), .int (i 1), .ref (ad 28), .ref (ad 29), .ref (ad 30), .ref (ad 31), .ref (ad 32), .ref (ad 33), .ref (ad 34), .ref (ad 35), .ref (ad 36), .ref (ad 37), .ref (ad 38), .ref (ad 39), .ref (ad 40), .ref (ad 41), .ref (ad 42), .ref (ad 43), .ref (ad 44), .ref (ad 45), .int (i 20), .int (i 21), .ref (ad 46), .int (i 23), .ref (ad 47), .int (i 25), .ref (ad 48), .int (i 27), .int (i 28), .ref (ad 49), .ref (ad 50), .int (i 31), .int (i 32), .int (i 33), .int (i 34), .ref (ad 51), .ref (ad 52), .int (i 37), .ref (ad 53)])
  | 10 => .inl (g 0, ln k, .inl i)
  | 11 => .inl (g 3, ln k, .inl i)
  | 12 => .inr (0, [.long (j 0), .int (i 1), .int (i 2), .ref (ad (k + 1)), .ref (ad (k + 2)), .ref (ad (k + 4)), .ref (ad (k + 5)), .int (i 7), .int (i 8), .int (i 9), .int (i 10), .int (i 11), .int (i 12), .int (i 13), .int (i 14)])
  | _ => .inl (g 5, ln k, .inr (.inr (.inr (.inr (fun q => some (ad (k + 2 + 2 * q)))))))
def cE (g : Nat → ClassId) (ad : Nat → Nat) (n : Nat) (k : Nat) (i : Nat → Int32) (j : Nat → Int64) : va_E := cK g ad n k i j (kd k)
theorem cE_k {g : Nat → ClassId} {ad : Nat → Nat} {n k κ : Nat} {i : Nat → Int32} {j : Nat → Int64} (h : kd k = κ) : cE g ad n k i j = cK g ad n k i j κ := by unfold cE; rw [h]
def tp (n : Nat) : Nat := 54 + 12 * n
def wl (g : Nat → ClassId) (ad : Nat → Nat) (n : Nat) (σ : St) : va_W := (List.range (tp n)).map (fun k => (ad k, cE g ad n k (σ.1 k) (σ.2 k)))
theorem wl_at {g : Nat → ClassId} {ad : Nat → Nat} {n : Nat} {σ : St} {k : Nat} {e : va_E} (hk : k < tp n) (hc : cE g ad n k (σ.1 k) (σ.2 k) = e) : (wl g ad n σ)[k]? = some (ad k, e) := by
  unfold wl
  rw [List.getElem?_map, List.getElem?_range hk]
  simp [hc]
theorem wl_set {g : Nat → ClassId} {ad : Nat → Nat} {n : Nat} {σ τ : St} {k : Nat} {e : va_E} (he : cE g ad n k (τ.1 k) (τ.2 k) = e) (hi : ∀ q, q ≠ k → τ.1 q = σ.1 q) (hj : ∀ q, q ≠ k → τ.2 q = σ.2 q) : (wl g ad n σ).set k (ad k, e) = wl g ad n τ := by
  apply List.ext_getElem?
  intro q
  by_cases hq : q = k
  · subst hq
    by_cases hl : q < tp n
    · rw [List.getElem?_set_self (by simpa [wl] using hl), wl_at (e := e) hl he]
    · rw [List.getElem?_eq_none (by simpa [wl] using hl), List.getElem?_eq_none (by simpa [wl] using hl)]
  · rw [List.getElem?_set_ne (fun h => hq h.symm)]
    unfold wl
    rw [List.getElem?_map, List.getElem?_map]
    by_cases hl : q < tp n
    · rw [List.getElem?_range hl]
      simp [hi q hq, hj q hq]
    · rw [List.getElem?_eq_none (by simpa using hl)]
      rfl
/-- an int, a long of a role -/
def sI (σ : St) (k j : Nat) (v : Int32) : St := (fun q => if q = k then upd (σ.1 k) j v else σ.1 q, σ.2)
def sJ (σ : St) (k j : Nat) (v : Int64) : St := (σ.1, fun q => if q = k then vp_updL (σ.2 k) j v else σ.2 q)
theorem sI_self (σ : St) (k j : Nat) (v : Int32) : (sI σ k j v).1 k = upd (σ.1 k) j v := by simp [sI]
theorem sJ_self (σ : St) (k j : Nat) (v : Int64) : (sJ σ k j v).2 k = vp_updL (σ.2 k) j v := by simp [sJ]
theorem wl_sI {g : Nat → ClassId} {ad : Nat → Nat} {n : Nat} {σ : St} {k j : Nat} {v : Int32} {e : va_E} (he : cE g ad n k (upd (σ.1 k) j v) (σ.2 k) = e) : (wl g ad n σ).set k (ad k, e) = wl g ad n (sI σ k j v) :=
  wl_set (by rw [sI_self]; exact he) (fun q h => by simp [sI, h]) (fun _ _ => rfl)
theorem wl_sJ {g : Nat → ClassId} {ad : Nat → Nat} {n : Nat} {σ : St} {k j : Nat} {v : Int64} {e : va_E} (he : cE g ad n k (σ.1 k) (vp_updL (σ.2 k) j v) = e) : (wl g ad n σ).set k (ad k, e) = wl g ad n (sJ σ k j v) :=
  wl_set (by rw [sJ_self]; exact he) (fun _ _ => rfl) (fun q h => by simp [sJ, h])
/-- the array classes as the tables have them -/
def tyL (g : Nat → ClassId) : List (ClassId × FieldType) := [(g 0, .byte), (g 1, .int), (g 2, .long), (g 3, .boolean), (g 4, .object "LampLine$Lamp"), (g 5, .object "LampLine$Row")]
/-- the list of matters, a static array that nobody writes -/
def mtT : List Int32 := [80, 96, 128, 130, 224, 240, 4096, 32]
def mtF (k : Nat) : Value := .int (mtT.getD k 0)
/-- the words on private fields and methods of nest mates -/
def nestW : List Cond := [.fieldLinkNest "LampLine" 139 "LampLine$Packet" "part" "I" "LampLine",
  .fieldLinkNest "LampLine" 142 "LampLine$Packet" "data" "LLampLine$Row;" "LampLine",
  .fieldLinkNest "LampLine" 151 "LampLine$Packet" "kind" "I" "LampLine",
  .fieldLinkNest "LampLine" 173 "LampLine$Lamp" "id" "J" "LampLine",
  .fieldLinkNest "LampLine" 189 "LampLine$Lamp" "text" "LLampLine$Row;" "LampLine",
  .fieldLinkNest "LampLine" 194 "LampLine$Lamp" "silent" "Z" "LampLine",
  .fieldLinkNest "LampLine" 210 "LampLine$Search" "depth" "I" "LampLine",
  .fieldLinkNest "LampLine" 213 "LampLine$Search" "begun" "Z" "LampLine",
  .fieldLinkNest "LampLine" 223 "LampLine$Search" "foundCount" "I" "LampLine",
  .fieldLinkNest "LampLine" 228 "LampLine$Search" "foundIds" "[J" "LampLine",
  .fieldLinkNest "LampLine" 232 "LampLine$Search" "steps" "I" "LampLine",
  .fieldLinkNest "LampLine" 257 "LampLine$Packet" "to" "J" "LampLine",
  .fieldLinkNest "LampLine" 278 "LampLine$Packet" "from" "J" "LampLine",
  .fieldLinkNest "LampLine" 281 "LampLine$Packet" "count" "I" "LampLine",
  .fieldLinkNest "LampLine" 284 "LampLine$Packet" "messages" "I" "LampLine",
  .fieldLinkNest "LampLine" 287 "LampLine$Packet" "group" "I" "LampLine",
  .fieldLinkNest "LampLine" 290 "LampLine$Packet" "matter" "I" "LampLine",
  .fieldLinkNest "LampLine$Lamp" 108 "LampLine$Packet" "group" "I" "LampLine",
  .fieldLinkNest "LampLine$Lamp" 125 "LampLine$Packet" "data" "LLampLine$Row;" "LampLine",
  .fieldLinkNest "LampLine$Lamp" 128 "LampLine$Packet" "matter" "I" "LampLine",
  .fieldLinkNest "LampLine$Lamp" 149 "LampLine$Packet" "messages" "I" "LampLine",
  .fieldLinkNest "LampLine$Lamp" 155 "LampLine$Packet" "part" "I" "LampLine",
  .fieldLinkNest "LampLine$Lamp" 187 "LampLine$Packet" "kind" "I" "LampLine",
  .methodLinkNest "LampLine" 29 ⟨"LampLine$Packet", "<init>", "()V"⟩ "LampLine",
  .methodLinkNest "LampLine" 42 ⟨"LampLine$Spoils", "<init>", "()V"⟩ "LampLine",
  .methodLinkNest "LampLine" 49 ⟨"LampLine$Search", "<init>", "()V"⟩ "LampLine",
  .methodLinkNest "LampLine$Lamp" 52 ⟨"LampLine", "makerOf", "(J)I"⟩ "LampLine",
  .methodLinkNest "LampLine$Lamp" 64 ⟨"LampLine", "flag", "(Z)I"⟩ "LampLine",
  .methodLinkNest "LampLine$Lamp" 101 ⟨"LampLine", "restOf", "(J)J"⟩ "LampLine",
  .methodLinkNest "LampLine$Lamp" 183 ⟨"LampLine", "fits", "(II)Z"⟩ "LampLine",
  .methodLinkNest "LampLine$Packet" 24 ⟨"LampLine", "restOf", "(J)J"⟩ "LampLine"]
def nestOk (w : Cond) : Bool := match w with
  | .fieldLinkNest _ _ _ _ _ _ => true
  | .methodLinkNest _ _ _ _ => true
  | _ => false
theorem nestW_ok : nestW.all nestOk = true := by decide +kernel
theorem nest_warm {w : Cond} (hw : nestOk w = true) {s U : State} (hW : s.WarmedH U.vm) (h : va_Nw w s) : va_Nw w U := by
  cases w <;> simp [nestOk] at hw
  · exact va_Nw.warmM hW h
  · exact va_Nw.warmF hW h
theorem nest_same {w : Cond} (hw : nestOk w = true) {u U : State} (hvm : u.vm = U.vm) (h : va_Nw w u) : va_Nw w U := by
  cases w <;> simp [nestOk] at hw
  · exact va_Nw.same rfl hvm h
  · exact va_Nw.same rfl hvm h
theorem nest_use {w : Cond} (hw : nestOk w = true) {A : Array Value} {U : State} (h : va_Nw w U) : w.before A U = true := by
  cases w <;> simp [nestOk] at hw
  · exact va_Nw.use rfl h
  · exact va_Nw.use rfl h
/-- what a throw needs: two statics of Throwable, the texts, casts -/
def strW : List (Nat × String) := [(64, "no ID of a lamp"), (69, "width or modes"), (75, "address"), (85, "the ID is there"), (93, "no room for a lamp more"), (103, "the tape is full"), (109, "the tape has not so many bytes"), (123, "the answer has no such byte"), (131, "no ID"), (133, "part, kind or matter"), (154, "no byte of an answer"), (167, "nothing of that kind is told"), (184, "the lamp has no such slot"), (192, "the label has no such byte"), (216, "no search"), (218, "not so many steps at once"), (226, "not so many are found"), (235, "no branch"), (244, "no such lamp")]
abbrev eIA : String := "java/lang/IllegalArgumentException"
abbrev eIS : String := "java/lang/IllegalStateException"
abbrev eIO : String := "java/lang/IndexOutOfBoundsException"
def cstW : List Cond := [.castable eIA eIA, .castable eIS eIS, .castable eIO eIO, .declares (Bundle.initS "java/lang/RuntimeException"), .declares (Bundle.initS "java/lang/Exception"), .declares (Bundle.initS Bundle.tN)]
def ncW : List (String × String) := [(eIS, eIA), (eIA, eIS)]
theorem cst_warm {w : Cond} (hw : w ∈ cstW) {s U : State} (hW : s.WarmedH U.vm) (h : va_Nw w s) : va_Nw w U := by
  simp only [cstW, List.mem_cons, List.not_mem_nil, or_false] at hw
  rcases hw with e | e | e | e | e | e <;> subst e <;> first | exact va_Nw.warmC hW h | exact va_Nw.warmD hW h
theorem cst_same {w : Cond} (hw : w ∈ cstW) {u U : State} (hvm : u.vm = U.vm) (h : va_Nw w u) : va_Nw w U := by
  simp only [cstW, List.mem_cons, List.not_mem_nil, or_false] at hw
  rcases hw with e | e | e | e | e | e <;> subst e <;> exact va_Nw.same rfl hvm h
def wX (a0 : Nat) (U : State) : Prop := vx_Zq Bundle.tN "UNASSIGNED_STACK" Bundle.steD (fun q : Nat => a0 ≤ q) U U.heap ∧ vx_Zq Bundle.tN "SUPPRESSED_SENTINEL" Bundle.listD (fun q : Nat => a0 ≤ q) U U.heap ∧ (∀ q ∈ strW, ∃ sa, vk_R RX6 q.1 q.2 sa U) ∧ (∀ w ∈ cstW, va_Nw w U) ∧ ∀ q ∈ ncW, va_Nc q.1 q.2 U
theorem cst_use {w : Cond} (hw : w ∈ cstW) {A : Array Value} {U : State} (h : va_Nw w U) : w.before A U = true := by
  simp only [cstW, List.mem_cons, List.not_mem_nil, or_false] at hw
  rcases hw with e | e | e | e | e | e <;> subst e <;> exact va_Nw.use rfl h
/-- what is known of the tables and of statics: at a start, and from any state behind it -/
def wK (G : va_G) (g : Nat → ClassId) (a0 aM : Nat) (U : State) : Prop := va_K G vwCl (tyL g) U ∧ va_Z "LampLine$Lamp" "MATTERS" "[I" (.ref aM) (fun q : Nat => a0 ≤ q) U U.heap ∧ va_T .int aM 8 mtF (fun q : Nat => a0 ≤ q) U U.heap ∧ (∀ w ∈ nestW, va_Nw w U) ∧ wX a0 U
/-- the world: the store is on the heap, its cells are apart and lie from a0 on, nothing below a0 has changed since H0 -/
def Wd (G : va_G) (g : Nat → ClassId) (ad : Nat → Nat) (n : Nat) (a0 : Nat) (H0 : Heap) (σ : St) (H : Heap) (locs : List Loc) : Prop := va_P G vwCl (wl g ad n σ) H ∧ va_D (fun q : Nat => a0 ≤ q) (wl g ad n σ) ∧ va_S (fun q : Nat => a0 ≤ q) H0 H locs
/-- a contract's start and the world at its end -/
def wP (G : va_G) (g : Nat → ClassId) (ad : Nat → Nat) (n : Nat) (a0 aM : Nat) (σ : St) (U : State) : Prop := va_P G vwCl (wl g ad n σ) U.heap ∧ va_D (fun q : Nat => a0 ≤ q) (wl g ad n σ) ∧ wK G g a0 aM U
def wB (G : va_G) (g : Nat → ClassId) (ad : Nat → Nat) (n : Nat) (a0 : Nat) (u : St) (t : State) : Prop := va_P G vwCl (wl g ad n u) t.heap ∧ va_D (fun q : Nat => a0 ≤ q) (wl g ad n u)
theorem wK.moved {G : va_G} {g : Nat → ClassId} {a0 aM : Nat} {s U : State} {H : Heap} {locs : List Loc} (h : wK G g a0 aM s) (hW : s.WarmedH U.vm) (hS : va_S (fun q : Nat => a0 ≤ q) s.heap H locs) (hU : U.heap = H) : wK G g a0 aM U := by
  obtain ⟨h1, h2, h3, h4, x1, x2, x3, x4, x5⟩ := h
  subst hU
  have hvm := hW.alike
  exact ⟨va_K.moved hvm h1, va_Z.moved hvm (va_Z.kept h2 (fun a h1 h2 => hS.2.1 a h1 h2)), va_T.moved hvm (va_T.kept h3 (fun a h1 h2 => hS.2.1 a h1 h2)), fun w hw => nest_warm (List.all_eq_true.mp nestW_ok w hw) hW (h4 w hw), vx_Zq.moved hvm (vx_Zq.kept x1 (fun a h1 h2 => hS.2.1 a h1 h2)), vx_Zq.moved hvm (vx_Zq.kept x2 (fun a h1 h2 => hS.2.1 a h1 h2)), fun q hq => (x3 q hq).imp (fun _ h => vk_R.warm hW h), fun w hw => cst_warm hw hW (x4 w hw), fun q hq => va_Nc.moved hvm (x5 q hq)⟩
theorem wK.nest {G : va_G} {g : Nat → ClassId} {a0 aM : Nat} {s : State} (h : wK G g a0 aM s) {w : Cond} (hw : w ∈ nestW) {A : Array Value} : w.before A s = true := nest_use (List.all_eq_true.mp nestW_ok w hw) (h.2.2.2.1 w hw)
theorem wP_blind {G : va_G} {g : Nat → ClassId} {ad : Nat → Nat} {n a0 aM : Nat} {σ : St} {av : List Value} : FrameBlind (va_Pc av (wP G g ad n a0 aM σ)) := fun a U f mk q => by
  obtain ⟨q0, q1, q2, q3, q4, q5, q6, x1, x2, x3, x4, x5⟩ := q
  exact ⟨q0, q1, q2, va_K.moved (u := U) (U := U.calling f mk a) (Vm.Alike.refl U.vm) q3, va_Z.moved (u := U) (U := U.calling f mk a) (Vm.Alike.refl U.vm) q4, va_T.moved (u := U) (U := U.calling f mk a) (Vm.Alike.refl U.vm) q5, fun w hw => nest_same (u := U) (U := U.calling f mk a) (List.all_eq_true.mp nestW_ok w hw) rfl (q6 w hw), vx_Zq.moved (u := U) (U := U.calling f mk a) (Vm.Alike.refl U.vm) x1, vx_Zq.moved (u := U) (U := U.calling f mk a) (Vm.Alike.refl U.vm) x2, fun q hq => (x3 q hq).imp (fun _ h => vk_R.same (u := U) (U := U.calling f mk a) rfl h), fun w hw => cst_same (u := U) (U := U.calling f mk a) hw rfl (x4 w hw), fun q hq => va_Nc.moved (u := U) (U := U.calling f mk a) (Vm.Alike.refl U.vm) (x5 q hq)⟩
/-- what hangs on a row, a packet, a lamp -/
def isRow (r : Nat) : Prop := kd r = 2 ∧ kd (r + 1) = 3
def isPk (r : Nat) : Prop := kd r = 4 ∧ isRow (r + 1)
def isLp (r : Nat) : Prop := kd r = 12 ∧ kd (r + 1) = 3 ∧ isRow (r + 2) ∧ kd (r + 4) = 13 ∧ kd (r + 5) = 11 ∧ isRow (r + 6) ∧ isRow (r + 8) ∧ isRow (r + 10) ∧ ln (r + 1) = 512 ∧ ln (r + 2 + 1) = 32 ∧ ln (r + 4) = 3 ∧ ln (r + 5) = 3 ∧ ln (r + 6 + 1) = 32 ∧ ln (r + 8 + 1) = 32 ∧ ln (r + 10 + 1) = 32
theorem isLp_at (i : Nat) : isLp (54 + 12 * i) := by
  have h : ∀ d, d < 12 → kd (54 + 12 * i + d) = kd1.getD d 0 := fun d hd => by
    unfold kd
    rw [if_neg (by omega)]
    congr 1
    omega
  have k : ∀ d, d < 12 → ln (54 + 12 * i + d) = ln1.getD d 0 := fun d hd => by
    unfold ln
    rw [if_neg (by omega)]
    congr 1
    omega
  exact ⟨h 0 (by decide), h 1 (by decide), ⟨h 2 (by decide), h 3 (by decide)⟩, h 4 (by decide), h 5 (by decide), ⟨h 6 (by decide), h 7 (by decide)⟩, ⟨h 8 (by decide), h 9 (by decide)⟩, ⟨h 10 (by decide), h 11 (by decide)⟩, k 1 (by decide), k 3 (by decide), k 4 (by decide), k 5 (by decide), k 7 (by decide), k 9 (by decide), k 11 (by decide)⟩
end
section
/-! ===== the machine's instructions over the store ===== -/
/-- a guard -/
def gd {α : Type} (b : Bool) (k : Option α) : Option α := if b = true then k else none
theorem gd_some {α : Type} {b : Bool} {k : Option α} {x : α} (h : gd b k = some x) : b = true ∧ k = some x := by
  unfold gd at h
  by_cases hb : b = true
  · rw [if_pos hb] at h; exact ⟨hb, h⟩
  · rw [if_neg hb] at h; cases h
theorem bd_some {α β : Type} {o : Option α} {k : α → Option β} {x : β} (h : o.bind k = some x) : ∃ y, o = some y ∧ k y = some x := by
  cases o with
  | none => cases h
  | some y => exact ⟨y, rfl, h⟩
/-- an index within, a number that is a boolean -/
def ib (i : Int32) (n : Nat) : Bool := !(decide (i < 0)) && decide (i.toNatClampNeg < n)
theorem ib_in {i : Int32} {n : Nat} (h : ib i n = true) : vp_in i n := by
  simp only [ib, Bool.and_eq_true, Bool.not_eq_true', decide_eq_false_iff_not, decide_eq_true_eq] at h
  intro q
  rcases q with q | q
  · exact h.1 q
  · omega
def zb (x : Int32) : Bool := decide (x = 0) || decide (x = 1)
theorem zb_nar {x : Int32} (h : zb x = true) : narrow .boolean (.int x) = .int x := by
  simp only [zb, Bool.or_eq_true, decide_eq_true_eq] at h
  rcases h with h | h <;> subst h <;> rfl
theorem zb_fit {x : Int32} (h : zb x = true) : fits .boolean (.int x) = true := by
  simp only [zb, Bool.or_eq_true, decide_eq_true_eq] at h
  rcases h with h | h <;> subst h <;> rfl
theorem tp_lt {n k : Nat} (h : k < 54) : k < tp n := by unfold tp; omega
section WR
variable {p : Program} {l : Launch} {e : Env} {R : Room} {s : State} {m : MethodId} {args : Array Value} {below : List Frame} {meth : Method} {c : Code} {H : Heap} {locs : List Loc} {cells slots : Nat} {Q : State → Prop}
variable {cc : ByteArray} {pc : Nat} {ls : Array Slot} {rest : List Value} {G : va_G} {g : Nat → ClassId} {ad : Nat → Nat} {n a0 aM : Nat} {σ : St} {H0 : Heap}
theorem r_get (hx : p.tables.exec = Jvm.exec) (hb : c.code = cc) {own C : String} {T : u_T} {N ci index : Nat} {Ts : List Cond} (hts : ∀ w ∈ Ts, w.before args s = true) (hin : ∀ w ∈ u_ws C T N, w ∈ Ts) (hown : s.vm.findClass own = some m.cls) (hK : wK G g a0 aM s) (hW : Wd G g ad n a0 H0 σ H locs) (k : Nat) (hk : k < tp n) {fs : List Value} (hc : cE g ad n k (σ.1 k) (σ.2 k) = .inr (ci, fs)) (hcl : vwCl[ci]? = some (C, T, N)) (j : Nat) (hj : j < N) (hlink : (Cond.fieldLink own index (T j).1 (T j).2.1 (T j).2.2.1).before args s = true) {v : Value} (hv : fs[j]? = some v) (hdg : decode cc pc = .ok (.getfield index, 3))
    (kk : W p l e R s m args below meth c H locs cells slots Q (F0 m (pc + 3) ls (v :: rest))) : W p l e R s m args below meth c H locs cells slots Q (F0 m pc ls (.ref (ad k) :: rest)) :=
  va_get hx hb hts hin hown hK.1 hW.1 k (wl_at hk hc) hcl j hj hlink (fun _ h => h) hv hdg kk
theorem r_getN (hx : p.tables.exec = Jvm.exec) (hb : c.code = cc) {own C host : String} {T : u_T} {N ci index : Nat} {Ts : List Cond} (hts : ∀ w ∈ Ts, w.before args s = true) (hin : ∀ w ∈ u_ws C T N, w ∈ Ts) (hown : s.vm.findClass own = some m.cls) (hK : wK G g a0 aM s) (hW : Wd G g ad n a0 H0 σ H locs) (k : Nat) (hk : k < tp n) {fs : List Value} (hc : cE g ad n k (σ.1 k) (σ.2 k) = .inr (ci, fs)) (hcl : vwCl[ci]? = some (C, T, N)) (j : Nat) (hj : j < N) (hlink : (Cond.fieldLinkNest own index (T j).1 (T j).2.1 (T j).2.2.1 host).before args s = true) {v : Value} (hv : fs[j]? = some v) (hdg : decode cc pc = .ok (.getfield index, 3))
    (kk : W p l e R s m args below meth c H locs cells slots Q (F0 m (pc + 3) ls (v :: rest))) : W p l e R s m args below meth c H locs cells slots Q (F0 m pc ls (.ref (ad k) :: rest)) :=
  va_getN hx hb hts hin hown hK.1 hW.1 k (wl_at hk hc) hcl j hj hlink (fun _ h => h) hv hdg kk
theorem r_putI (hx : p.tables.exec = Jvm.exec) (hb : c.code = cc) {own C : String} {T : u_T} {N ci index : Nat} {Ts : List Cond} (hts : ∀ w ∈ Ts, w.before args s = true) (hin : ∀ w ∈ u_ws C T N, w ∈ Ts) (ty0 : Nat → FieldType) (hty : ∀ k, k < N → parseFieldDescriptor (T k).2.2.1 = some (ty0 k)) (hnm : ∀ a, a < N → ∀ b, b < N → a ≠ b → (T a).2.1 ≠ (T b).2.1) (hown : s.vm.findClass own = some m.cls) (hK : wK G g a0 aM s) (hW : Wd G g ad n a0 H0 σ H locs) (k : Nat) (hk : k < tp n) {fs : List Value} (hc : cE g ad n k (σ.1 k) (σ.2 k) = .inr (ci, fs)) (hcl : vwCl[ci]? = some (C, T, N)) (j : Nat) (hj : j < N) {x : Int32} (hc2 : cE g ad n k (upd (σ.1 k) j x) (σ.2 k) = .inr (ci, fs.set j (.int x))) (hlink : (Cond.fieldLink own index (T j).1 (T j).2.1 (T j).2.2.1).before args s = true) (hfin : (T j).2.2.2 = false) {ty : FieldType} (hd : parseFieldDescriptor (T j).2.2.1 = some ty) (hn : narrow ty (.int x) = .int x) (hfit : fits ty (.int x) = true) (hl : j < fs.length) (hdg : decode cc pc = .ok (.putfield index, 3))
    (kk : ∀ (H : Heap) (locs : List Loc), Wd G g ad n a0 H0 (sI σ k j x) H locs → W p l e R s m args below meth c H locs cells slots Q (F0 m (pc + 3) ls rest)) : W p l e R s m args below meth c H locs cells slots Q (F0 m pc ls (.int x :: .ref (ad k) :: rest)) :=
  va_put hx hb hts hin ty0 hty hnm hown hK.1 hW.1 hW.2.1 hW.2.2 k (wl_at hk hc) hcl j hj hlink (fun _ h => h) hfin hd hn hfit hl hdg (fun H1 locs1 h1 h2 h3 => kk H1 locs1 ⟨by rw [← wl_sI hc2]; exact h1, by rw [← wl_sI hc2]; exact h2, h3⟩)
theorem r_putIN (hx : p.tables.exec = Jvm.exec) (hb : c.code = cc) {own C host : String} {T : u_T} {N ci index : Nat} {Ts : List Cond} (hts : ∀ w ∈ Ts, w.before args s = true) (hin : ∀ w ∈ u_ws C T N, w ∈ Ts) (ty0 : Nat → FieldType) (hty : ∀ k, k < N → parseFieldDescriptor (T k).2.2.1 = some (ty0 k)) (hnm : ∀ a, a < N → ∀ b, b < N → a ≠ b → (T a).2.1 ≠ (T b).2.1) (hown : s.vm.findClass own = some m.cls) (hK : wK G g a0 aM s) (hW : Wd G g ad n a0 H0 σ H locs) (k : Nat) (hk : k < tp n) {fs : List Value} (hc : cE g ad n k (σ.1 k) (σ.2 k) = .inr (ci, fs)) (hcl : vwCl[ci]? = some (C, T, N)) (j : Nat) (hj : j < N) {x : Int32} (hc2 : cE g ad n k (upd (σ.1 k) j x) (σ.2 k) = .inr (ci, fs.set j (.int x))) (hlink : (Cond.fieldLinkNest own index (T j).1 (T j).2.1 (T j).2.2.1 host).before args s = true) (hfin : (T j).2.2.2 = false) {ty : FieldType} (hd : parseFieldDescriptor (T j).2.2.1 = some ty) (hn : narrow ty (.int x) = .int x) (hfit : fits ty (.int x) = true) (hl : j < fs.length) (hdg : decode cc pc = .ok (.putfield index, 3))
    (kk : ∀ (H : Heap) (locs : List Loc), Wd G g ad n a0 H0 (sI σ k j x) H locs → W p l e R s m args below meth c H locs cells slots Q (F0 m (pc + 3) ls rest)) : W p l e R s m args below meth c H locs cells slots Q (F0 m pc ls (.int x :: .ref (ad k) :: rest)) :=
  va_putN hx hb hts hin ty0 hty hnm hown hK.1 hW.1 hW.2.1 hW.2.2 k (wl_at hk hc) hcl j hj hlink (fun _ h => h) hfin hd hn hfit hl hdg (fun H1 locs1 h1 h2 h3 => kk H1 locs1 ⟨by rw [← wl_sI hc2]; exact h1, by rw [← wl_sI hc2]; exact h2, h3⟩)
theorem r_putJ (hx : p.tables.exec = Jvm.exec) (hb : c.code = cc) {own C : String} {T : u_T} {N ci index : Nat} {Ts : List Cond} (hts : ∀ w ∈ Ts, w.before args s = true) (hin : ∀ w ∈ u_ws C T N, w ∈ Ts) (ty0 : Nat → FieldType) (hty : ∀ k, k < N → parseFieldDescriptor (T k).2.2.1 = some (ty0 k)) (hnm : ∀ a, a < N → ∀ b, b < N → a ≠ b → (T a).2.1 ≠ (T b).2.1) (hown : s.vm.findClass own = some m.cls) (hK : wK G g a0 aM s) (hW : Wd G g ad n a0 H0 σ H locs) (k : Nat) (hk : k < tp n) {fs : List Value} (hc : cE g ad n k (σ.1 k) (σ.2 k) = .inr (ci, fs)) (hcl : vwCl[ci]? = some (C, T, N)) (j : Nat) (hj : j < N) {x : Int64} (hc2 : cE g ad n k (σ.1 k) (vp_updL (σ.2 k) j x) = .inr (ci, fs.set j (.long x))) (hlink : (Cond.fieldLink own index (T j).1 (T j).2.1 (T j).2.2.1).before args s = true) (hfin : (T j).2.2.2 = false) (hd : parseFieldDescriptor (T j).2.2.1 = some .long) (hl : j < fs.length) (hdg : decode cc pc = .ok (.putfield index, 3))
    (kk : ∀ (H : Heap) (locs : List Loc), Wd G g ad n a0 H0 (sJ σ k j x) H locs → W p l e R s m args below meth c H locs cells slots Q (F0 m (pc + 3) ls rest)) : W p l e R s m args below meth c H locs cells slots Q (F0 m pc ls (.long x :: .ref (ad k) :: rest)) :=
  va_put hx hb hts hin ty0 hty hnm hown hK.1 hW.1 hW.2.1 hW.2.2 k (wl_at hk hc) hcl j hj hlink (fun _ h => h) hfin hd rfl rfl hl hdg (fun H1 locs1 h1 h2 h3 => kk H1 locs1 ⟨by rw [← wl_sJ hc2]; exact h1, by rw [← wl_sJ hc2]; exact h2, h3⟩)
theorem r_putJN (hx : p.tables.exec = Jvm.exec) (hb : c.code = cc) {own C host : String} {T : u_T} {N ci index : Nat} {Ts : List Cond} (hts : ∀ w ∈ Ts, w.before args s = true) (hin : ∀ w ∈ u_ws C T N, w ∈ Ts) (ty0 : Nat → FieldType) (hty : ∀ k, k < N → parseFieldDescriptor (T k).2.2.1 = some (ty0 k)) (hnm : ∀ a, a < N → ∀ b, b < N → a ≠ b → (T a).2.1 ≠ (T b).2.1) (hown : s.vm.findClass own = some m.cls) (hK : wK G g a0 aM s) (hW : Wd G g ad n a0 H0 σ H locs) (k : Nat) (hk : k < tp n) {fs : List Value} (hc : cE g ad n k (σ.1 k) (σ.2 k) = .inr (ci, fs)) (hcl : vwCl[ci]? = some (C, T, N)) (j : Nat) (hj : j < N) {x : Int64} (hc2 : cE g ad n k (σ.1 k) (vp_updL (σ.2 k) j x) = .inr (ci, fs.set j (.long x))) (hlink : (Cond.fieldLinkNest own index (T j).1 (T j).2.1 (T j).2.2.1 host).before args s = true) (hfin : (T j).2.2.2 = false) (hd : parseFieldDescriptor (T j).2.2.1 = some .long) (hl : j < fs.length) (hdg : decode cc pc = .ok (.putfield index, 3))
    (kk : ∀ (H : Heap) (locs : List Loc), Wd G g ad n a0 H0 (sJ σ k j x) H locs → W p l e R s m args below meth c H locs cells slots Q (F0 m (pc + 3) ls rest)) : W p l e R s m args below meth c H locs cells slots Q (F0 m pc ls (.long x :: .ref (ad k) :: rest)) :=
  va_putN hx hb hts hin ty0 hty hnm hown hK.1 hW.1 hW.2.1 hW.2.2 k (wl_at hk hc) hcl j hj hlink (fun _ h => h) hfin hd rfl rfl hl hdg (fun H1 locs1 h1 h2 h3 => kk H1 locs1 ⟨by rw [← wl_sJ hc2]; exact h1, by rw [← wl_sJ hc2]; exact h2, h3⟩)
theorem r_iald (hx : p.tables.exec = Jvm.exec) (hb : c.code = cc) (hK : wK G g a0 aM s) (hW : Wd G g ad n a0 H0 σ H locs) (k : Nat) (hk : k < tp n) (hr : kd k = 3) {i : Int32} (hi : ib i (ln k) = true) (hdg : decode cc pc = .ok (.iaload, 1))
    (kk : W p l e R s m args below meth c H locs cells slots Q (F0 m (pc + 1) ls (.int (σ.1 k i.toNatClampNeg) :: rest))) : W p l e R s m args below meth c H locs cells slots Q (F0 m pc ls (.int i :: .ref (ad k) :: rest)) :=
  va_iald hx hb hK.1 hW.1 k 1 (wl_at hk (cE_k hr)) rfl (ib_in hi) hdg kk
theorem r_bald (hx : p.tables.exec = Jvm.exec) (hb : c.code = cc) (hK : wK G g a0 aM s) (hW : Wd G g ad n a0 H0 σ H locs) (k : Nat) (hk : k < tp n) (hr : kd k = 10) {i : Int32} (hi : ib i (ln k) = true) (hdg : decode cc pc = .ok (.baload, 1))
    (kk : W p l e R s m args below meth c H locs cells slots Q (F0 m (pc + 1) ls (.int (σ.1 k i.toNatClampNeg) :: rest))) : W p l e R s m args below meth c H locs cells slots Q (F0 m pc ls (.int i :: .ref (ad k) :: rest)) :=
  va_bald hx hb hK.1 hW.1 k 0 (wl_at hk (cE_k hr)) rfl (ib_in hi) hdg kk
theorem r_zald (hx : p.tables.exec = Jvm.exec) (hb : c.code = cc) (hK : wK G g a0 aM s) (hW : Wd G g ad n a0 H0 σ H locs) (k : Nat) (hk : k < tp n) (hr : kd k = 11) {i : Int32} (hi : ib i (ln k) = true) (hdg : decode cc pc = .ok (.baload, 1))
    (kk : W p l e R s m args below meth c H locs cells slots Q (F0 m (pc + 1) ls (.int (σ.1 k i.toNatClampNeg) :: rest))) : W p l e R s m args below meth c H locs cells slots Q (F0 m pc ls (.int i :: .ref (ad k) :: rest)) :=
  va_zald hx hb hK.1 hW.1 k 3 (wl_at hk (cE_k hr)) rfl (ib_in hi) hdg kk
theorem r_lald (hx : p.tables.exec = Jvm.exec) (hb : c.code = cc) (hK : wK G g a0 aM s) (hW : Wd G g ad n a0 H0 σ H locs) (k : Nat) (hk : k < tp n) (hr : kd k = 7) {i : Int32} (hi : ib i (ln k) = true) (hdg : decode cc pc = .ok (.laload, 1))
    (kk : W p l e R s m args below meth c H locs cells slots Q (F0 m (pc + 1) ls (.long (σ.2 k i.toNatClampNeg) :: rest))) : W p l e R s m args below meth c H locs cells slots Q (F0 m pc ls (.int i :: .ref (ad k) :: rest)) :=
  va_lald hx hb hK.1 hW.1 k 2 (wl_at hk (cE_k hr)) rfl (ib_in hi) hdg kk
theorem r_iast (hx : p.tables.exec = Jvm.exec) (hb : c.code = cc) (hK : wK G g a0 aM s) (hW : Wd G g ad n a0 H0 σ H locs) (k : Nat) (hk : k < tp n) (hr : kd k = 3) {i x : Int32} (hi : ib i (ln k) = true) (hdg : decode cc pc = .ok (.iastore, 1))
    (kk : ∀ (H : Heap) (locs : List Loc), Wd G g ad n a0 H0 (sI σ k i.toNatClampNeg x) H locs → W p l e R s m args below meth c H locs cells slots Q (F0 m (pc + 1) ls rest)) : W p l e R s m args below meth c H locs cells slots Q (F0 m pc ls (.int x :: .int i :: .ref (ad k) :: rest)) :=
  va_iast hx hb hK.1 hW.1 hW.2.1 hW.2.2 k 1 (wl_at hk (cE_k hr)) rfl (ib_in hi) hdg (fun H1 locs1 h1 h2 h3 => kk H1 locs1 ⟨by rw [← wl_sI (cE_k hr)]; exact h1, by rw [← wl_sI (cE_k hr)]; exact h2, h3⟩)
theorem r_bast (hx : p.tables.exec = Jvm.exec) (hb : c.code = cc) (hK : wK G g a0 aM s) (hW : Wd G g ad n a0 H0 σ H locs) (k : Nat) (hk : k < tp n) (hr : kd k = 10) {i x : Int32} (hi : ib i (ln k) = true) (hdg : decode cc pc = .ok (.bastore, 1))
    (kk : ∀ (H : Heap) (locs : List Loc), Wd G g ad n a0 H0 (sI σ k i.toNatClampNeg (vp_nar .byte x)) H locs → W p l e R s m args below meth c H locs cells slots Q (F0 m (pc + 1) ls rest)) : W p l e R s m args below meth c H locs cells slots Q (F0 m pc ls (.int x :: .int i :: .ref (ad k) :: rest)) :=
  va_bast hx hb hK.1 hW.1 hW.2.1 hW.2.2 k 0 (wl_at hk (cE_k hr)) rfl (ib_in hi) hdg (fun H1 locs1 h1 h2 h3 => kk H1 locs1 ⟨by rw [← wl_sI (cE_k hr)]; exact h1, by rw [← wl_sI (cE_k hr)]; exact h2, h3⟩)
theorem r_zast (hx : p.tables.exec = Jvm.exec) (hb : c.code = cc) (hK : wK G g a0 aM s) (hW : Wd G g ad n a0 H0 σ H locs) (k : Nat) (hk : k < tp n) (hr : kd k = 11) {i x : Int32} (hi : ib i (ln k) = true) (hdg : decode cc pc = .ok (.bastore, 1))
    (kk : ∀ (H : Heap) (locs : List Loc), Wd G g ad n a0 H0 (sI σ k i.toNatClampNeg (vp_nar .boolean x)) H locs → W p l e R s m args below meth c H locs cells slots Q (F0 m (pc + 1) ls rest)) : W p l e R s m args below meth c H locs cells slots Q (F0 m pc ls (.int x :: .int i :: .ref (ad k) :: rest)) :=
  va_zast hx hb hK.1 hW.1 hW.2.1 hW.2.2 k 3 (wl_at hk (cE_k hr)) rfl (ib_in hi) hdg (fun H1 locs1 h1 h2 h3 => kk H1 locs1 ⟨by rw [← wl_sI (cE_k hr)]; exact h1, by rw [← wl_sI (cE_k hr)]; exact h2, h3⟩)
theorem r_last (hx : p.tables.exec = Jvm.exec) (hb : c.code = cc) (hK : wK G g a0 aM s) (hW : Wd G g ad n a0 H0 σ H locs) (k : Nat) (hk : k < tp n) (hr : kd k = 7) {i : Int32} {x : Int64} (hi : ib i (ln k) = true) (hdg : decode cc pc = .ok (.lastore, 1))
    (kk : ∀ (H : Heap) (locs : List Loc), Wd G g ad n a0 H0 (sJ σ k i.toNatClampNeg x) H locs → W p l e R s m args below meth c H locs cells slots Q (F0 m (pc + 1) ls rest)) : W p l e R s m args below meth c H locs cells slots Q (F0 m pc ls (.long x :: .int i :: .ref (ad k) :: rest)) :=
  va_last hx hb hK.1 hW.1 hW.2.1 hW.2.2 k 2 (wl_at hk (cE_k hr)) rfl (ib_in hi) hdg (fun H1 locs1 h1 h2 h3 => kk H1 locs1 ⟨by rw [← wl_sJ (cE_k hr)]; exact h1, by rw [← wl_sJ (cE_k hr)]; exact h2, h3⟩)
theorem r_ilen (hx : p.tables.exec = Jvm.exec) (hb : c.code = cc) (hK : wK G g a0 aM s) (hW : Wd G g ad n a0 H0 σ H locs) (k : Nat) (hk : k < tp n) (hr : kd k = 3) (hdg : decode cc pc = .ok (.arraylength, 1))
    (kk : W p l e R s m args below meth c H locs cells slots Q (F0 m (pc + 1) ls (.int (Int32.ofNat (ln k)) :: rest))) : W p l e R s m args below meth c H locs cells slots Q (F0 m pc ls (.ref (ad k) :: rest)) :=
  va_alen hx hb hK.1 hW.1 k 1 (wl_at hk (cE_k hr)) rfl rfl hdg kk
/-- an element of the row of lamps -/
theorem r_lamp (hx : p.tables.exec = Jvm.exec) (hb : c.code = cc) (hK : wK G g a0 aM s) (hW : Wd G g ad n a0 H0 σ H locs) {i : Int32} (hi : ib i 24 = true) (hn : i.toNatClampNeg < n) (hdg : decode cc pc = .ok (.aaload, 1))
    (kk : W p l e R s m args below meth c H locs cells slots Q (F0 m (pc + 1) ls (.ref (ad (54 + 12 * i.toNatClampNeg)) :: rest))) : W p l e R s m args below meth c H locs cells slots Q (F0 m pc ls (.int i :: .ref (ad 25) :: rest)) := by
  refine va_aldq hx hb hK.1 hW.1 25 4 (wl_at (tp_lt (by decide)) (cE_k (k := 25) (κ := 8) rfl)) rfl (ib_in hi) hdg ?_
  rw [if_pos hn]
  exact kk
/-- an element of a lamp's row of texts -/
theorem r_later (hx : p.tables.exec = Jvm.exec) (hb : c.code = cc) (hK : wK G g a0 aM s) (hW : Wd G g ad n a0 H0 σ H locs) (k : Nat) (hk : k < tp n) (hr : kd k = 13) {i : Int32} (hi : ib i (ln k) = true) (hdg : decode cc pc = .ok (.aaload, 1))
    (kk : W p l e R s m args below meth c H locs cells slots Q (F0 m (pc + 1) ls (.ref (ad (k + 2 + 2 * i.toNatClampNeg)) :: rest))) : W p l e R s m args below meth c H locs cells slots Q (F0 m pc ls (.int i :: .ref (ad k) :: rest)) :=
  va_aldq hx hb hK.1 hW.1 k 5 (wl_at hk (cE_k hr)) rfl (ib_in hi) hdg kk
end WR
section WE
variable {p : Program} {l : Launch} {e : Env} {R : Room} {s : State} {m : MethodId} {args : Array Value} {below : List Frame} {meth : Method} {c : Code} {H : Heap} {locs : List Loc} {cells slots : Nat}
variable {cc : ByteArray} {pc : Nat} {ls : Array Slot} {G : va_G} {g : Nat → ClassId} {ad : Nat → Nat} {n a0 aM : Nat} {σ : St}
/-- a method's ends: its answer and store are those that its function has -/
def qI (G : va_G) (g : Nat → ClassId) (ad : Nat → Nat) (n : Nat) (a0 : Nat) (x : St × Int32) : Array Value → State → Outcome → State → Prop := va_Qi (fun r u => (u, r) = x) (wB G g ad n a0) (fun q : Nat => a0 ≤ q)
def qJ (G : va_G) (g : Nat → ClassId) (ad : Nat → Nat) (n : Nat) (a0 : Nat) (x : St × Int64) : Array Value → State → Outcome → State → Prop := va_Ql (fun r u => (u, r) = x) (wB G g ad n a0) (fun q : Nat => a0 ≤ q)
def qV (G : va_G) (g : Nat → ClassId) (ad : Nat → Nat) (n : Nat) (a0 : Nat) (x : St) : Array Value → State → Outcome → State → Prop := va_Qv (fun u => u = x) (wB G g ad n a0) (fun q : Nat => a0 ≤ q)
theorem r_iret (hx : p.tables.exec = Jvm.exec) (hb : c.code = cc) (hr : meth.sig.returnType = some .int) (hlocks : meth.locks = false) (hW : Wd G g ad n a0 s.heap σ H locs) {v : Int32} {x : St × Int32} (hF : some (σ, v) = some x) (hdg : decode cc pc = .ok (.ireturn, 1)) : W p l e R s m args below meth c H locs cells slots (MQ below (qI G g ad n a0 x) args s cells slots (fun q : Nat => a0 ≤ q)) (F0 m pc ls [.int v]) :=
  W.iret hx hb hr (fun t ht _ => ⟨⟨v, σ, rfl, Option.some.inj hF, by rw [ht]; exact hW.1, hW.2.1⟩, hW.2.2.F ht⟩) hW.2.2.2.2 hdg hlocks
theorem r_zret (hx : p.tables.exec = Jvm.exec) (hb : c.code = cc) (hr : meth.sig.returnType = some .boolean) (hlocks : meth.locks = false) (hW : Wd G g ad n a0 s.heap σ H locs) {v : Int32} (hz : zb v = true) {x : St × Int32} (hF : some (σ, v) = some x) (hdg : decode cc pc = .ok (.ireturn, 1)) : W p l e R s m args below meth c H locs cells slots (MQ below (qI G g ad n a0 x) args s cells slots (fun q : Nat => a0 ≤ q)) (F0 m pc ls [.int v]) :=
  W.zret hx hb hr (zb_nar hz) (fun t ht _ => ⟨⟨v, σ, rfl, Option.some.inj hF, by rw [ht]; exact hW.1, hW.2.1⟩, hW.2.2.F ht⟩) hW.2.2.2.2 hdg hlocks
theorem r_lret (hx : p.tables.exec = Jvm.exec) (hb : c.code = cc) (hr : meth.sig.returnType = some .long) (hlocks : meth.locks = false) (hW : Wd G g ad n a0 s.heap σ H locs) {v : Int64} {x : St × Int64} (hF : some (σ, v) = some x) (hdg : decode cc pc = .ok (.lreturn, 1)) : W p l e R s m args below meth c H locs cells slots (MQ below (qJ G g ad n a0 x) args s cells slots (fun q : Nat => a0 ≤ q)) (F0 m pc ls [.long v]) :=
  W.lret hx hb hr (fun t ht _ => ⟨⟨v, σ, rfl, Option.some.inj hF, by rw [ht]; exact hW.1, hW.2.1⟩, hW.2.2.F ht⟩) hW.2.2.2.2 hdg hlocks
theorem r_vret (hx : p.tables.exec = Jvm.exec) (hb : c.code = cc) (hr : meth.sig.returnType = none) (hlocks : meth.locks = false) (hW : Wd G g ad n a0 s.heap σ H locs) {x : St} (hF : some σ = some x) (hdg : decode cc pc = .ok (.return_, 1)) : W p l e R s m args below meth c H locs cells slots (MQ below (qV G g ad n a0 x) args s cells slots (fun q : Nat => a0 ≤ q)) (F0 m pc ls []) :=
  W.vret hx hb hr (fun t ht _ => ⟨⟨σ, rfl, Option.some.inj hF, by rw [ht]; exact hW.1, hW.2.1⟩, hW.2.2.F ht⟩) hW.2.2.2.2 hdg hlocks
end WE
section WC
variable {p : Program} {l : Launch} {e : Env} {R : Room} {s : State} {m : MethodId} {args : Array Value} {below : List Frame} {meth : Method} {c : Code} {H : Heap} {locs : List Loc} {cells slots : Nat} {Q : State → Prop}
variable {cc : ByteArray} {pc : Nat} {ls : Array Slot} {st0 rest : List Value} {G : va_G} {g : Nat → ClassId} {ad : Nat → Nat} {n a0 aM : Nat} {σ : St} {free : Addr → Prop} {a : Array Value}
/-- behind a call: the store is that of the callee's function -/
theorem r_bi {x : St × Int32} (hr : va_Run p l e R s m args below meth c H locs cells slots 0 0 (F0 m pc ls st0) rest (qI G g ad n a0 x a) (fun q : Nat => a0 ≤ q)) (hW : Wd G g ad n a0 s.heap σ H locs)
    (kk : ∀ (H : Heap) (locs : List Loc), Wd G g ad n a0 s.heap x.1 H locs → W p l e R s m args below meth c H locs cells slots Q (F0 m (pc + 3) ls (.int x.2 :: rest))) : W p l e R s m args below meth c H locs cells slots Q (F0 m pc ls st0) :=
  va_calli hr hW.2.2 (fun _ _ h => h) (fun _ h => h) (fun r u t H1 locs1 ht _ hp hB _ _ hS => by
    subst hp; subst ht
    exact kk t.heap locs1 ⟨hB.1, hB.2, hS⟩)
theorem r_bl {x : St × Int64} (hr : va_Run p l e R s m args below meth c H locs cells slots 0 0 (F0 m pc ls st0) rest (qJ G g ad n a0 x a) (fun q : Nat => a0 ≤ q)) (hW : Wd G g ad n a0 s.heap σ H locs)
    (kk : ∀ (H : Heap) (locs : List Loc), Wd G g ad n a0 s.heap x.1 H locs → W p l e R s m args below meth c H locs cells slots Q (F0 m (pc + 3) ls (.long x.2 :: rest))) : W p l e R s m args below meth c H locs cells slots Q (F0 m pc ls st0) :=
  va_calll hr hW.2.2 (fun _ _ h => h) (fun _ h => h) (fun r u t H1 locs1 ht _ hp hB _ _ hS => by
    subst hp; subst ht
    exact kk t.heap locs1 ⟨hB.1, hB.2, hS⟩)
theorem r_bv {x : St} (hr : va_Run p l e R s m args below meth c H locs cells slots 0 0 (F0 m pc ls st0) rest (qV G g ad n a0 x a) (fun q : Nat => a0 ≤ q)) (hW : Wd G g ad n a0 s.heap σ H locs)
    (kk : ∀ (H : Heap) (locs : List Loc), Wd G g ad n a0 s.heap x H locs → W p l e R s m args below meth c H locs cells slots Q (F0 m (pc + 3) ls rest)) : W p l e R s m args below meth c H locs cells slots Q (F0 m pc ls st0) :=
  va_callv hr hW.2.2 (fun _ _ h => h) (fun _ h => h) (fun u t H1 locs1 ht _ hp hB _ _ hS => by
    subst hp; subst ht
    exact kk t.heap locs1 ⟨hB.1, hB.2, hS⟩)
/-- ahead of a call: the callee's start -/
theorem r_pre (hK : wK G g a0 aM s) (hW : Wd G g ad n a0 s.heap σ H locs) (As : List Value) : PreS s H (va_Pc As (wP G g ad n a0 aM σ)) As :=
  ⟨wP_blind, fun U hU hw => ⟨rfl, by rw [hU]; exact hW.1, hW.2.1, hK.moved hw hW.2.2 hU⟩⟩
theorem r_preV (hK : wK G g a0 aM s) (hW : Wd G g ad n a0 s.heap σ H locs) (k : Nat) (hk : k < tp n) {ci : Nat} {fs : List Value} {q : vw_C} (hc : cE g ad n k (σ.1 k) (σ.2 k) = .inr (ci, fs)) (hcl : vwCl[ci]? = some q) (As : List Value) : PreV s H q.1 (ad k) (va_Pc (.ref (ad k) :: As) (wP G g ad n a0 aM σ)) As :=
  ⟨wP_blind, va_recv hK.1 hW.1 hcl (wl_at hk hc), fun U hU hw => ⟨rfl, by rw [hU]; exact hW.1, hW.2.1, hK.moved hw hW.2.2 hU⟩⟩
end WC
end
section
/-! ===== what the written functions and walks use ===== -/
/-- more rounds than any loop makes -/
def fu : Nat := 4096
/-- a store gets a name -/
def nm {α β : Type} (a : α) (f : α → Option β) : Option β := f a
theorem nm_some {α β : Type} {a : α} {f : α → Option β} {x : β} (h : nm a f = some x) : ∃ w, w = a ∧ f w = some x := ⟨a, rfl, h⟩
theorem isLp_lt {q : Nat} {i : Int32} (h : isLp q) (hi : ib i (ln (q + 4)) = true) : Int32.toNatClampNeg i < 3 := by
  obtain ⟨-, -, -, -, -, -, -, -, -, -, hq, -⟩ := h
  simp only [ib, hq, Bool.and_eq_true, Bool.not_eq_true', decide_eq_false_iff_not, decide_eq_true_eq] at hi
  exact hi.2
theorem isLp_row {q : Nat} {i : Int32} (h : isLp q) (hi : ib i (ln (q + 4)) = true) : isRow (q + 4 + 2 + 2 * (Int32.toNatClampNeg i)) := by
  have h3 := isLp_lt h hi
  obtain ⟨-, -, -, -, -, h6, h8, h10, -⟩ := h
  rcases (show Int32.toNatClampNeg i = 0 ∨ Int32.toNatClampNeg i = 1 ∨ Int32.toNatClampNeg i = 2 by omega) with e | e | e <;> rw [e]
  · exact h6
  · exact h8
  · exact h10
end
section
/-! ===== methods that throw: x = (store, kind, value), kind 0 returned, 1 IllegalArgument, 2 IllegalState, 3 IndexOutOfBounds ===== -/
def exN (E : String) : Nat := if E = eIA then 1 else if E = eIS then 2 else if E = eIO then 3 else 4
theorem exN_pos (E : String) : exN E ≠ 0 := by
  unfold exN
  split
  · decide
  · split
    · decide
    · split <;> decide
theorem exN_1 {E : String} (h : exN E = 1) : E = eIA := by
  unfold exN at h
  by_cases h1 : E = eIA
  · exact h1
  · rw [if_neg h1] at h
    by_cases h2 : E = eIS
    · rw [if_pos h2] at h; exact absurd h (by decide)
    · rw [if_neg h2] at h
      by_cases h3 : E = eIO
      · rw [if_pos h3] at h; exact absurd h (by decide)
      · rw [if_neg h3] at h; exact absurd h (by decide)
theorem exN_2 {E : String} (h : exN E = 2) : E = eIS := by
  unfold exN at h
  by_cases h1 : E = eIA
  · rw [if_pos h1] at h; exact absurd h (by decide)
  · rw [if_neg h1] at h
    by_cases h2 : E = eIS
    · exact h2
    · rw [if_neg h2] at h
      by_cases h3 : E = eIO
      · rw [if_pos h3] at h; exact absurd h (by decide)
      · rw [if_neg h3] at h; exact absurd h (by decide)
theorem exN_3 {E : String} (h : exN E = 3) : E = eIO := by
  unfold exN at h
  by_cases h1 : E = eIA
  · rw [if_pos h1] at h; exact absurd h (by decide)
  · rw [if_neg h1] at h
    by_cases h2 : E = eIS
    · rw [if_pos h2] at h; exact absurd h (by decide)
    · rw [if_neg h2] at h
      by_cases h3 : E = eIO
      · exact h3
      · rw [if_neg h3] at h; exact absurd h (by decide)
def xQI (G : va_G) (g : Nat → ClassId) (ad : Nat → Nat) (n : Nat) (a0 : Nat) (x : St × Nat × Int32) : Array Value → State → Outcome → State → Prop := va_Qi (fun r u => (u, 0, r) = x) (wB G g ad n a0) (fun q : Nat => a0 ≤ q)
def xQJ (G : va_G) (g : Nat → ClassId) (ad : Nat → Nat) (n : Nat) (a0 : Nat) (x : St × Nat × Int64) : Array Value → State → Outcome → State → Prop := va_Ql (fun r u => (u, 0, r) = x) (wB G g ad n a0) (fun q : Nat => a0 ≤ q)
def xQV (G : va_G) (g : Nat → ClassId) (ad : Nat → Nat) (n : Nat) (a0 : Nat) (x : St × Nat × Int32) : Array Value → State → Outcome → State → Prop := va_Qv (fun u => (u, 0, (0 : Int32)) = x) (wB G g ad n a0) (fun q : Nat => a0 ≤ q)
def xQR (G : va_G) (g : Nat → ClassId) (ad : Nat → Nat) (n : Nat) (a0 : Nat) (x : St × Nat × Nat) : Array Value → State → Outcome → State → Prop := va_Qr (fun u => (u, 0, x.2.2) = x) (fun u a t => a = ad x.2.2 ∧ wB G g ad n a0 u t) (fun q : Nat => a0 ≤ q)
def xX (G : va_G) (g : Nat → ClassId) (ad : Nat → Nat) (n : Nat) (a0 : Nat) (σ : St) (k : Nat) : String → State → State → Prop := vx_X (fun u : St => u = σ) (fun E u t => exN E = k ∧ wB G g ad n a0 u t) (fun q : Nat => a0 ≤ q)
section XE
variable {p : Program} {l : Launch} {e : Env} {R : Room} {s : State} {m : MethodId} {args : Array Value} {below : List Frame} {meth : Method} {c : Code} {H : Heap} {locs : List Loc} {cells slots mc ms : Nat}
variable {cc : ByteArray} {pc : Nat} {ls : Array Slot} {rest : List Value} {G : va_G} {g : Nat → ClassId} {ad : Nat → Nat} {n a0 aM : Nat} {σ : St} {XC : String → State → State → Prop} {Qc : Array Value → State → Outcome → State → Prop}
theorem rx_iret (hx : p.tables.exec = Jvm.exec) (hb : c.code = cc) (hr : meth.sig.returnType = some .int) (hlocks : meth.locks = false) (hW : Wd G g ad n a0 s.heap σ H locs) {v : Int32} {x : St × Nat × Int32} (hF : some (σ, 0, v) = some x) (hdg : decode cc pc = .ok (.ireturn, 1)) (hc : cells ≤ mc) (hs : slots ≤ ms) : W p l e R s m args below meth c H locs cells slots (vx_MQ below (xQI G g ad n a0 x) XC args s mc ms (fun q : Nat => a0 ≤ q)) (F0 m pc ls [.int v]) :=
  W.widen (k := mc) (n := ms) hc hs (vx_ret (W.iret hx hb hr (fun t ht _ => ⟨⟨v, σ, rfl, Option.some.inj hF, by rw [ht]; exact hW.1, hW.2.1⟩, hW.2.2.F ht⟩) hW.2.2.2.2 hdg hlocks))
theorem rx_lret (hx : p.tables.exec = Jvm.exec) (hb : c.code = cc) (hr : meth.sig.returnType = some .long) (hlocks : meth.locks = false) (hW : Wd G g ad n a0 s.heap σ H locs) {v : Int64} {x : St × Nat × Int64} (hF : some (σ, 0, v) = some x) (hdg : decode cc pc = .ok (.lreturn, 1)) (hc : cells ≤ mc) (hs : slots ≤ ms) : W p l e R s m args below meth c H locs cells slots (vx_MQ below (xQJ G g ad n a0 x) XC args s mc ms (fun q : Nat => a0 ≤ q)) (F0 m pc ls [.long v]) :=
  W.widen (k := mc) (n := ms) hc hs (vx_ret (W.lret hx hb hr (fun t ht _ => ⟨⟨v, σ, rfl, Option.some.inj hF, by rw [ht]; exact hW.1, hW.2.1⟩, hW.2.2.F ht⟩) hW.2.2.2.2 hdg hlocks))
theorem rx_vret (hx : p.tables.exec = Jvm.exec) (hb : c.code = cc) (hr : meth.sig.returnType = none) (hlocks : meth.locks = false) (hW : Wd G g ad n a0 s.heap σ H locs) {x : St × Nat × Int32} (hF : some (σ, 0, (0 : Int32)) = some x) (hdg : decode cc pc = .ok (.return_, 1)) (hc : cells ≤ mc) (hs : slots ≤ ms) : W p l e R s m args below meth c H locs cells slots (vx_MQ below (xQV G g ad n a0 x) XC args s mc ms (fun q : Nat => a0 ≤ q)) (F0 m pc ls []) :=
  W.widen (k := mc) (n := ms) hc hs (vx_ret (W.vret hx hb hr (fun t ht _ => ⟨⟨σ, rfl, Option.some.inj hF, by rw [ht]; exact hW.1, hW.2.1⟩, hW.2.2.F ht⟩) hW.2.2.2.2 hdg hlocks))
theorem rx_aret (hx : p.tables.exec = Jvm.exec) (hb : c.code = cc) {C : String} (hr : meth.sig.returnType = some (.object C)) (hlocks : meth.locks = false) (hW : Wd G g ad n a0 s.heap σ H locs) {r : Nat} {x : St × Nat × Nat} (hF : some (σ, 0, r) = some x) (hdg : decode cc pc = .ok (.areturn, 1)) (hc : cells ≤ mc) (hs : slots ≤ ms) : W p l e R s m args below meth c H locs cells slots (vx_MQ below (xQR G g ad n a0 x) XC args s mc ms (fun q : Nat => a0 ≤ q)) (F0 m pc ls [.ref (ad r)]) := by
  have hF := Option.some.inj hF
  subst hF
  exact W.widen (k := mc) (n := ms) hc hs (vx_ret (W.aret hx hb hr (Or.inl ⟨_, rfl⟩) (Or.inr ⟨_, rfl⟩) (fun t ht _ => ⟨⟨σ, ad r, rfl, rfl, rfl, by rw [ht]; exact hW.1, hW.2.1⟩, hW.2.2.F ht⟩) hW.2.2.2.2 hdg hlocks))
/-- a throw: the sequence new, dup, ldc, <init>, athrow -/
theorem rx_throw (hx : p.tables.exec = Jvm.exec) (hb : c.code = cc) (hst : l.stackTraces = false) {cls text : String} {ik is ic maxL : Nat}
    (hown : s.vm.findClass RX6 = some m.cls) (hcls : Bundle.fit cls = true)
    (hk : (Cond.classLink RX6 ik cls).before args s = true) (hini : (Cond.initialized cls).before args s = true) (hK : wK G g a0 aM s) (htx : (is, text) ∈ strW) (hat : ∀ w ∈ vx_atS RX6 ic cls ["java/lang/RuntimeException", "java/lang/Exception"], w.before args s = true)
    (hgood : ∀ w ∈ Cond.classLink RX6 ik cls :: Cond.initialized cls :: vx_atS RX6 ic cls ["java/lang/RuntimeException", "java/lang/Exception"], vx_ot w = true)
    (hW : Wd G g ad n a0 s.heap σ H locs) (hml : c.maxLocals = maxL) (hsize : ls.size = maxL)
    (d0 : decode cc pc = .ok (.new ik, 3)) (d3 : decode cc (pc + 3) = .ok (.dup, 1)) (d4 : decode cc (pc + 4) = .ok (.ldc is, 2)) (d6 : decode cc (pc + 6) = .ok (.invokespecial ic, 3)) (d9 : decode cc (pc + 9) = .ok (.athrow, 1))
    (hno : ∀ x ∈ c.exceptionTable.toList, False) (hRf : 5 < R.frames) (hRl : (rest.map fun v => v.category).sum + 82 ≤ R.locals) (hRc : cells + 1 ≤ R.cells) (hRs : slots + 6 ≤ R.slots) (hc : cells + 1 ≤ mc) (hs : slots + 6 ≤ ms) (hlocks : meth.locks = false) {τ : St} {kd9 : Nat} (hF : (σ, exN cls) = (τ, kd9)) :
    W p l e R s m args below meth c H locs cells slots (vx_MQ below Qc (xX G g ad n a0 τ kd9) args s mc ms (fun q : Nat => a0 ≤ q)) (F0 m pc ls rest) := by
  cases hF
  obtain ⟨-, -, -, -, x1, x2, x3, -⟩ := hK
  obtain ⟨sa, hsa⟩ := x3 _ htx
  refine vx_throwS (names := ["java/lang/RuntimeException", "java/lang/Exception"]) hx hb hst hown hcls (by decide +kernel) hk hini hsa hat hgood x1 x2 hW.2.2 (hsize.trans hml.symm) d0 d3 d4 d6 d9 (fun x h => absurd h (hno x)) hRf (by simpa using hRl) hRc hRs hlocks ?_ hW.2.2.2.2 hc hs
  intro t _ h1 h2
  refine ⟨σ, rfl, ⟨rfl, va_P.kept hW.1 (fun k q hq => h2 _ (hW.1 k q hq).lt), hW.2.1⟩, ?_⟩
  exact ⟨Nat.le_trans hW.2.2.1 h1, fun q hq hA => by rw [h2 q (Nat.lt_of_lt_of_le hq hW.2.2.1)]; exact hW.2.2.2.1 q hq hA⟩
end XE
theorem hatA {args : Array Value} {s : State} (htA : ∀ w ∈ AL, w.before args s = true) {G : va_G} {g : Nat → ClassId} {a0 aM : Nat} (hK : wK G g a0 aM s) : ∀ w ∈ vx_atS RX6 66 eIA ["java/lang/RuntimeException", "java/lang/Exception"], w.before args s = true :=
  vx_hat (B := cstW) (fun w h => htA w (ia_vxA1 w h)) (by decide +kernel) (fun w h => cst_use h (hK.2.2.2.2.2.2.2.1 w h))
theorem hatS {args : Array Value} {s : State} (htA : ∀ w ∈ AL, w.before args s = true) {G : va_G} {g : Nat → ClassId} {a0 aM : Nat} (hK : wK G g a0 aM s) : ∀ w ∈ vx_atS RX6 95 eIS ["java/lang/RuntimeException", "java/lang/Exception"], w.before args s = true :=
  vx_hat (B := cstW) (fun w h => htA w (ia_vxA2 w h)) (by decide +kernel) (fun w h => cst_use h (hK.2.2.2.2.2.2.2.1 w h))
theorem hatO {args : Array Value} {s : State} (htA : ∀ w ∈ AL, w.before args s = true) {G : va_G} {g : Nat → ClassId} {a0 aM : Nat} (hK : wK G g a0 aM s) : ∀ w ∈ vx_atS RX6 125 eIO ["java/lang/RuntimeException", "java/lang/Exception"], w.before args s = true :=
  vx_hat (B := cstW) (fun w h => htA w (ia_vxA3 w h)) (by decide +kernel) (fun w h => cst_use h (hK.2.2.2.2.2.2.2.1 w h))
theorem hgdA : ∀ w ∈ Cond.classLink RX6 62 eIA :: Cond.initialized eIA :: vx_atS RX6 66 eIA ["java/lang/RuntimeException", "java/lang/Exception"], vx_ot w = true := by decide +kernel
theorem hgdS : ∀ w ∈ Cond.classLink RX6 91 eIS :: Cond.initialized eIS :: vx_atS RX6 95 eIS ["java/lang/RuntimeException", "java/lang/Exception"], vx_ot w = true := by decide +kernel
theorem hgdO : ∀ w ∈ Cond.classLink RX6 121 eIO :: Cond.initialized eIO :: vx_atS RX6 125 eIO ["java/lang/RuntimeException", "java/lang/Exception"], vx_ot w = true := by decide +kernel
section XC
variable {p : Program} {l : Launch} {e : Env} {R : Room} {s : State} {m : MethodId} {args : Array Value} {below : List Frame} {meth : Method} {c : Code} {H : Heap} {locs : List Loc} {cells slots : Nat} {Q : State → Prop}
variable {pc : Nat} {ls : Array Slot} {st0 rest : List Value} {G : va_G} {g : Nat → ClassId} {ad : Nat → Nat} {n a0 aM : Nat} {σ : St} {a : Array Value}
/-- behind a call of a method that returns a cell or throws -/
theorem rx_br {x : St × Nat × Nat} (hr : vx_Run p l e R s m args below meth c H locs cells slots 1 6 (F0 m pc ls st0) rest (xQR G g ad n a0 x a) (xX G g ad n a0 x.1 x.2.1) (fun q : Nat => a0 ≤ q)) (hW : Wd G g ad n a0 s.heap σ H locs)
    (kx : ∀ (E : String) (ce : Cell) (q9 : Addr) (H : Heap) (locs : List Loc), exN E = x.2.1 → Wd G g ad n a0 s.heap x.1 H locs → H[q9]? = some ce → ce.vm = .none → s.vm.findClass E = some ce.cls → vx_W p l e R s m args below meth c H locs (cells + 1) (slots + 6) Q (F0 m pc ls rest) q9)
    (kk : ∀ (H : Heap) (locs : List Loc), x.2.1 = 0 → Wd G g ad n a0 s.heap x.1 H locs → W p l e R s m args below meth c H locs (cells + 1) (slots + 6) Q (F0 m (pc + 3) ls (.ref (ad x.2.2) :: rest))) : W p l e R s m args below meth c H locs cells slots Q (F0 m pc ls st0) := by
  intro T hT X
  rcases hr T hT X with ⟨v, st₀, t, T', L, h0, X', hL, e1, e2, ⟨⟨u, b, hv, hp, hb, hB⟩, hF⟩, st⟩ | ⟨q, st₀, t, T', L, E, ce, h0, X', hL, e1, e2, ⟨u, hp, ⟨hE, hB⟩, hF⟩, hce, hcv, hcl, st⟩
  · cases hv
    subst hb
    obtain ⟨k1, k2, k3⟩ := vx_keep (A0 := fun q : Nat => a0 ≤ q) h0 e1 hW.2.2 (fun _ _ h => h) (fun _ h => h) hL hF
    have h1 : x.2.1 = 0 := by rw [← hp]
    have h2 : x.1 = u := by rw [← hp]
    obtain ⟨t2, a1, b1⟩ := kk T'.heap (locs ++ L) h1 ⟨by rw [h2, e1]; exact hB.1, by rw [h2]; exact hB.2, k3⟩ T' rfl X'
    exact ⟨t2, st t2 a1, b1⟩
  · obtain ⟨k1, k2, k3⟩ := vx_keep (A0 := fun q : Nat => a0 ≤ q) h0 e1 hW.2.2 (fun _ _ h => h) (fun _ h => h) hL hF
    subst hp
    obtain ⟨t2, a1, b1⟩ := kx E ce q T'.heap (locs ++ L) hE ⟨by rw [e1]; exact hB.1, hB.2, k3⟩ (by rw [e1]; exact hce) hcv hcl T' rfl X'
    exact ⟨t2, st.trans a1, b1⟩
/-- an exception goes on to the caller -/
theorem rx_out {Qc : Array Value → State → Outcome → State → Prop} {E : String} {ce : Cell} {q9 : Addr} {τ : St} {k9 : Nat} (hno : ∀ x ∈ c.exceptionTable.toList, False) (hlocks : meth.locks = false) (hE : exN E = k9) (hW : Wd G g ad n a0 s.heap τ H locs) (hcell : H[q9]? = some ce) (hv : ce.vm = .none) (hcl : s.vm.findClass E = some ce.cls) {mc ms : Nat} (hc : cells ≤ mc) (hs : slots ≤ ms) :
    vx_W p l e R s m args below meth c H locs cells slots (vx_MQ below Qc (xX G g ad n a0 τ k9) args s mc ms (fun q : Nat => a0 ≤ q)) (F0 m pc ls rest) q9 :=
  vx_out (fun x h => absurd h (hno x)) hlocks hcell hv hcl (fun t ht _ => ⟨τ, rfl, ⟨hE, by rw [ht]; exact hW.1, hW.2.1⟩, hW.2.2.F ht⟩) hW.2.2.2.2 hc hs
end XC
theorem ex_A : exN eIA = 1 := by decide +kernel
theorem ex_S : exN eIS = 2 := by decide +kernel
theorem ex_O : exN eIO = 3 := by decide +kernel
theorem rx_kF {α : Type} {cls : String} {k : Nat} {σ : St} {v : α} {x : St × Nat × α} (h : exN cls = k) (hF : some (σ, k, v) = some x) : (σ, exN cls) = (x.1, x.2.1) := by
  cases hF
  rw [h]
theorem rx_xF {α : Type} {σ : St} {k : Nat} {v : α} {x : St × Nat × α} (hF : some (σ, k, v) = some x) : σ = x.1 ∧ k = x.2.1 := by
  cases hF
  exact ⟨rfl, rfl⟩
end
section
/-! ===== an exception of a callee, caught here: tables of one or two rows ===== -/
section CTA
variable {Q : Handler → Pre} {E : CtlPost} {e : Env} {d : Bool} {acts : List Action} {s : State} {f : JFrame} {a : Addr}
/-- a row that covers the place and links to a class: it takes the object, or the search goes on behind it -/
theorem ct_row {x : ExceptionTableEntry} {t : List ExceptionTableEntry} {k c : ClassId} {cell : Cell} (b : Bool) (hx : covers x f.pc = true) (h0 : x.catchType ≠ 0)
    (hl : s.vm.ClassLinks e.platform f.method.cls x.catchType c) (hcell : s.heap[a]? = some cell) (hobj : ∀ k, cell.vm ≠ .statics k)
    (hk : ∃ k, s.vm.classes[cell.cls]? = some k) (hc : ∃ k, s.vm.classes[c]? = some k) (hfit : s.vm.assignable cell.cls c = b) :
    wp (findHandler.go f a (x :: t)) Q E e d acts s ↔ (if b = true then Q (.found x.handlerPc) d acts (s.setVm (s.vm.noted f.method.cls x.catchType (.cls c))) else wp (findHandler.go f a t) Q E e d acts (s.setVm (s.vm.noted f.method.cls x.catchType (.cls c)))) := by
  have hal : s.vm.Alike (s.vm.noted f.method.cls x.catchType (.cls c)) := (Vm.Alike.refl s.vm).noted _ _ _
  have hfit' : (s.vm.noted f.method.cls x.catchType (.cls c)).assignable cell.cls c = b := by rw [hal.assignable]; exact hfit
  obtain ⟨ha, ht⟩ := (resolveClass_links e.toSetting hl).op (op := VmOp.resolveClass f.method.cls x.catchType) rfl
  obtain ⟨k1, hk1⟩ := hk
  obtain ⟨k2, hk2⟩ := hc
  obtain ⟨k1', hk1', -⟩ := hal.2.2 _ _ hk1
  obtain ⟨k2', hk2', -⟩ := hal.2.2 _ _ hk2
  simp only [covers] at hx
  cases b <;> simp [findHandler.go, hx, h0, ha, ht, hcell, hobj, hk1', hk2', hfit', VmOp.dirties, VmOp.acts]
theorem ct_step {r : List Frame} {pc : Nat} {vm' : Vm} (h : ∀ (Q : Handler → Pre) (E : CtlPost) (d : Bool) (acts : List Action), wp (findHandler f a) Q E e d acts s ↔ Q (.found pc) d acts (s.setVm vm')) :
    (stepThrowing e s a (.java f :: r)).Is ((s.setVm vm').setFrames (.java { f with pc := pc, stack := [.ref a] } :: r)) [] := by
  simp only [stepThrowing, searchFrame, vmDo]
  generalize hr : Sem.go _ e false [] s = res
  obtain ⟨as, rfl, ha⟩ := Sem.eq_ok_of hr (a := Handler.found pc) (s' := s.setVm vm') (acts' := []) (by simp [h _ _ _ _])
  exact ⟨rfl, ha⟩
end CTA
section CTB
variable {p : Program} {l : Launch} {e : Env} {R : Room} {s : State} {m : MethodId} {args : Array Value} {below : List Frame} {meth : Method} {c : Code} {H : Heap} {locs : List Loc} {cells slots : Nat} {Q : State → Prop}
variable {pc : Nat} {ls : Array Slot} {rest : List Value}
/-- the search ends at a handler with the tables vm': the machine goes on there -/
theorem ct_go {T : State} (X : Stand p l e R s m args below meth c T locs cells slots) (q : Addr) {hp : Nat} {vm' : Vm}
    (h : ∀ (Q : Handler → Pre) (E : CtlPost) (d : Bool) (acts : List Action), wp (findHandler (F0 m pc ls rest) q) Q E e d acts ((T.setTop (F0 m pc ls rest)).pushFrame (.throwing q)) ↔ Q (.found hp) d acts (((T.setTop (F0 m pc ls rest)).pushFrame (.throwing q)).setVm vm'))
    {t : State} (hrest : Steps p.tables e below ((T.setVm vm').setTop (F0 m hp ls [.ref q])) t) : Steps p.tables e below ((T.setTop (F0 m pc ls rest)).pushFrame (.throwing q)) t := by
  obtain ⟨hgo, hw⟩ := At.throwing (g := F0 m pc ls rest) X.here q
  refine Steps.head hgo hw ?_
  rw [stepThread_throwing (frames_entered X.here.top _), (ct_step h).1]
  obtain ⟨g₀, hg⟩ := Option.isSome_iff_exists.mp X.here.top
  obtain ⟨r, hr⟩ := State.topJava?_eq_some.mp hg
  have hr' : (T.setVm vm').frames = .java g₀ :: r := hr
  rw [State.setTop_of_frames _ hr'] at hrest
  have hz : ∀ (u : State) (F1 F2 : List Frame), ((u.setFrames F1).setVm vm').setFrames F2 = (u.setVm vm').setFrames F2 := fun u F1 F2 => by
    rw [show (u.setFrames F1).setVm vm' = (u.setVm vm').setFrames F1 from rfl, State.setFrames_setFrames]
  rw [hr, List.tail_cons, State.pushFrame, hz, State.setTop_of_frames _ hr, hz]
  exact hrest
theorem ct_1 {own name E : String} {ce : Cell} {q : Addr} (hown : s.vm.findClass own = some m.cls) (x : ExceptionTableEntry) (suf : List ExceptionTableEntry) (hsplit : c.exceptionTable.toList = x :: suf) (hx : covers x pc = true) (h0 : x.catchType ≠ 0)
    (hlink : (Cond.classLink own x.catchType name).before args s = true) (hcast : (Cond.castable E name).before args s = true) (hcell : H[q]? = some ce) (hv : ce.vm = .none) (hcl : s.vm.findClass E = some ce.cls)
    (kk : W p l e R s m args below meth c H locs cells slots Q (F0 m x.handlerPc ls [.ref q])) : vx_W p l e R s m args below meth c H locs cells slots Q (F0 m pc ls rest) q := by
  intro T hT X
  have hpl : e.platform.magicAccessors = ({} : Platform).magicAccessors := by rw [X.admits.platform]
  obtain ⟨c3, c4, hc3, hc4, hasg⟩ := Cond.castable_spec hcast
  cases Option.some.inj (hc3.symm.trans hcl)
  obtain ⟨c5, hc5, hL⟩ := Cond.classLink_spec hown hlink e.platform hpl
  cases Option.some.inj (hc4.symm.trans hc5)
  obtain ⟨k9, hk9, -⟩ := Vm.findClass_spec hcl
  obtain ⟨k0, hk0, -⟩ := X.warmed.alike.2.2 _ _ hk9
  obtain ⟨dk, _, _, kt, hd, _, _, _, _, hkt, _, hopen⟩ := hL.here
  obtain ⟨kt', hkt', -⟩ := X.warmed.alike.2.2 _ _ hkt
  have hW' : s.WarmedH (T.vm.noted m.cls x.catchType (.cls c4)) := X.warmed.noted hd hopen (State.rightAt_cls hL)
  obtain ⟨t, a1, b1⟩ := kk (T.setVm (T.vm.noted m.cls x.catchType (.cls c4))) hT (X.noted hW')
  refine ⟨t, ct_go X q (fun Q9 E9 d9 acts9 => ?_) a1, b1⟩
  rw [W.findHandler_eq (meth := meth) (code := c) X.method' X.code, hsplit]
  have h := ct_row (Q := Q9) (E := E9) (d := d9) (acts := acts9) (e := e) (s := (T.setTop (F0 m pc ls rest)).pushFrame (.throwing q)) (f := F0 m pc ls rest) (a := q) (t := suf) (k := 0) (c := c4) (cell := ce) (x := x) true hx h0 (X.warmed.classLinks hL) (by show T.heap[q]? = _; rw [hT]; exact hcell) (fun k hk => by rw [hv] at hk; cases hk) ⟨k0, hk0⟩ ⟨kt', hkt'⟩ (by show T.vm.assignable _ _ = _; rw [X.warmed.alike.assignable]; exact hasg)
  rw [if_pos rfl] at h
  exact h
theorem ct_2 {own name nam2 E : String} {ce : Cell} {q : Addr} (hown : s.vm.findClass own = some m.cls) (y x : ExceptionTableEntry) (suf : List ExceptionTableEntry) (hsplit : c.exceptionTable.toList = y :: x :: suf) (hy : covers y pc = true) (hy0 : y.catchType ≠ 0) (hylink : (Cond.classLink own y.catchType nam2).before args s = true) (hno : va_Nc E nam2 s) (hx : covers x pc = true) (h0 : x.catchType ≠ 0)
    (hlink : (Cond.classLink own x.catchType name).before args s = true) (hcast : (Cond.castable E name).before args s = true) (hcell : H[q]? = some ce) (hv : ce.vm = .none) (hcl : s.vm.findClass E = some ce.cls)
    (kk : W p l e R s m args below meth c H locs cells slots Q (F0 m x.handlerPc ls [.ref q])) : vx_W p l e R s m args below meth c H locs cells slots Q (F0 m pc ls rest) q := by
  intro T hT X
  have hpl : e.platform.magicAccessors = ({} : Platform).magicAccessors := by rw [X.admits.platform]
  obtain ⟨c3, c4, hc3, hc4, hasg⟩ := Cond.castable_spec hcast
  cases Option.some.inj (hc3.symm.trans hcl)
  obtain ⟨c5, hc5, hL⟩ := Cond.classLink_spec hown hlink e.platform hpl
  cases Option.some.inj (hc4.symm.trans hc5)
  obtain ⟨c6, hc6, hL2⟩ := Cond.classLink_spec hown hylink e.platform hpl
  obtain ⟨a8, b8, h1, h2, h3⟩ := hno
  cases Option.some.inj (h1.symm.trans hcl)
  cases Option.some.inj (h2.symm.trans hc6)
  obtain ⟨k9, hk9, -⟩ := Vm.findClass_spec hcl
  obtain ⟨k0, hk0, -⟩ := X.warmed.alike.2.2 _ _ hk9
  obtain ⟨dk, _, _, kt, hd, _, _, _, _, hkt, _, hopen⟩ := hL.here
  obtain ⟨dk2, _, _, kt2, hd2, _, _, _, _, hkt2, _, hopen2⟩ := hL2.here
  obtain ⟨kt2', hkt2', -⟩ := X.warmed.alike.2.2 _ _ hkt2
  have hW1 : s.WarmedH (T.vm.noted m.cls y.catchType (.cls c6)) := X.warmed.noted hd2 hopen2 (State.rightAt_cls hL2)
  have hW' : s.WarmedH ((T.vm.noted m.cls y.catchType (.cls c6)).noted m.cls x.catchType (.cls c4)) := hW1.noted hd hopen (State.rightAt_cls hL)
  obtain ⟨k0', hk0', -⟩ := hW1.alike.2.2 _ _ hk9
  obtain ⟨kt', hkt', -⟩ := hW1.alike.2.2 _ _ hkt
  obtain ⟨t, a1, b1⟩ := kk (T.setVm ((T.vm.noted m.cls y.catchType (.cls c6)).noted m.cls x.catchType (.cls c4))) hT (X.noted hW')
  refine ⟨t, ct_go X q (fun Q9 E9 d9 acts9 => ?_) a1, b1⟩
  rw [W.findHandler_eq (meth := meth) (code := c) X.method' X.code, hsplit]
  have h := ct_row (Q := Q9) (E := E9) (d := d9) (acts := acts9) (e := e) (s := (T.setTop (F0 m pc ls rest)).pushFrame (.throwing q)) (f := F0 m pc ls rest) (a := q) (t := x :: suf) (k := 0) (c := c6) (cell := ce) (x := y) false hy hy0 (X.warmed.classLinks hL2) (by show T.heap[q]? = _; rw [hT]; exact hcell) (fun k hk => by rw [hv] at hk; cases hk) ⟨k0, hk0⟩ ⟨kt2', hkt2'⟩ (by show T.vm.assignable _ _ = _; rw [X.warmed.alike.assignable]; exact h3)
  rw [if_neg (by decide)] at h
  have h9 := ct_row (Q := Q9) (E := E9) (d := d9) (acts := acts9) (e := e) (s := ((T.setTop (F0 m pc ls rest)).pushFrame (.throwing q)).setVm (T.vm.noted m.cls y.catchType (.cls c6))) (f := F0 m pc ls rest) (a := q) (t := suf) (k := 0) (c := c4) (cell := ce) (x := x) true hx h0 (hW1.classLinks hL) (by show T.heap[q]? = _; rw [hT]; exact hcell) (fun k hk => by rw [hv] at hk; cases hk) ⟨k0', hk0'⟩ ⟨kt', hkt'⟩ (by show (T.vm.noted m.cls y.catchType (.cls c6)).assignable _ _ = _; rw [hW1.alike.assignable]; exact hasg)
  rw [if_pos rfl] at h9
  exact h.trans h9
end CTB
end
